/-! ORDER -/
def gWo (f : Nat → Nat) : Nat → Nat
  | 0 => 0
  | k + 1 => gWo f k ||| 2 ^ (f k)
def NWo (f : Nat → Nat) (i : Nat) : Prop := ∀ k, k < i → bt (gWo f k) (f k) = 0
section ORW
variable {d : Nat} {E : pEv} {r r' r1 r2 rm rm' : Nat → Nat → Int32} {t t' : Th} {X : Tx} {Q : Option Value → pH → Prop}
theorem ow1 : ∀ g, g < 128 → ∀ v, v < 7 → bt (g ||| 2 ^ v) v = 1 ∧ bc (g ||| 2 ^ v) = bc g + (if bt g v = 0 then 1 else 0) := by decide +kernel
theorem ow2 : ∀ g, g < 128 → ∀ v, v < 7 → ∀ u, u < 7 → bt g u = 1 → bt (g ||| 2 ^ v) u = 1 := by decide +kernel
theorem bc0 : bc 0 = 0 := by decide
theorem gWo_A {f : Nat → Nat} {n : Nat} (hn : n ≤ 7) : ∀ i, (∀ k, k < i → f k < n) → gWo f i < 2 ^ n ∧ bc (gWo f i) ≤ i ∧ (bc (gWo f i) = i ↔ NWo f i) := by
  intro i
  have p7 : 2 ^ n ≤ 2 ^ 7 := Nat.pow_le_pow_right (by decide) hn
  induction i with
  | zero =>
    intro _
    exact ⟨Nat.two_pow_pos n, by show bc 0 ≤ 0; rw [bc0]; omega, ⟨fun _ k hk => absurd hk (by omega), fun _ => bc0⟩⟩
  | succ i ih =>
    intro h
    obtain ⟨h1, h2, h3⟩ := ih (fun k hk => h k (by omega))
    have hv := h i (by omega)
    have hg : gWo f i < 128 := by omega
    obtain ⟨o1, o2⟩ := ow1 (gWo f i) hg (f i) (by omega)
    refine ⟨Nat.or_lt_two_pow h1 (Nat.pow_lt_pow_right (by decide) hv), ?_, ?_⟩
    · show bc (gWo f i ||| 2 ^ (f i)) ≤ i + 1
      rw [o2]
      by_cases q : bt (gWo f i) (f i) = 0
      · rw [if_pos q]; omega
      · rw [if_neg q]; omega
    · show bc (gWo f i ||| 2 ^ (f i)) = i + 1 ↔ _
      rw [o2]
      by_cases q : bt (gWo f i) (f i) = 0
      · rw [if_pos q]
        refine ⟨fun w k hk => ?_, fun w => ?_⟩
        · by_cases qk : k = i
          · rw [qk]; exact q
          · exact h3.mp (by omega) k (by omega)
        · have := h3.mpr (fun k hk => w k (by omega))
          omega
      · rw [if_neg q]
        refine ⟨fun w => by omega, fun w => absurd (w i (by omega)) q⟩
theorem gWo_B {f : Nat → Nat} {n : Nat} (hn : n ≤ 7) {a : Nat} : ∀ b, (∀ k, k < b → f k < n) → a < b → bt (gWo f b) (f a) = 1 := by
  have p7 : 2 ^ n ≤ 2 ^ 7 := Nat.pow_le_pow_right (by decide) hn
  intro b
  induction b with
  | zero => intro _ h; omega
  | succ b ih =>
    intro h hab
    have hg : gWo f b < 128 := by
      have := (gWo_A hn b (fun k hk => h k (by omega))).1
      omega
    have hv := h b (by omega)
    by_cases q : a = b
    · rw [q]
      exact (ow1 _ hg _ (by omega)).1
    · have ha := h a (by omega)
      exact ow2 _ hg _ (by omega) _ (by omega) (ih (fun k hk => h k (by omega)) (by omega))
theorem NWo_inj {f : Nat → Nat} {n i : Nat} (hn : n ≤ 7) (h : ∀ k, k < i → f k < n) (w : NWo f i) : ∀ a b, a < i → b < i → f a = f b → a = b := by
  have key : ∀ a b, a < b → b < i → f a ≠ f b := fun a b hab hb e => by
    have h1 := gWo_B (f := f) hn (a := a) b (fun k hk => h k (by omega)) hab
    have h2 := w b hb
    rw [e, h2] at h1
    omega
  intro a b ha hb e
  rcases Nat.lt_trichotomy a b with q | q | q
  · exact absurd e (key a b q hb)
  · exact q
  · exact absurd e.symm (key b a q ha)
/-- the sheet holds a whole order -/
def whO (n z : Nat) (q : Nat → Int32) : Prop := z = n ∧ (∀ k, k < z → ∃ v, v < n ∧ q k = nI v) ∧ NWo (fun k => (q k).toNatClampNeg) z
theorem wh_C (s_E : oE E) (ok : tOK t) (hC : tC t r) {a z : Nat} (ha : oRow a 40) (hk : rK r a 40 z) : ∃ b : Int32, (b = 1 ∧ whO t.n z (r (a + 1)) ∨ b = 0 ∧ ¬ whO t.n z (r (a + 1))) ∧ ∀ Q, wX (d + 2) 40 [.ref 11, .ref a] (mkH E r) Q = Q (some (.int b)) (mkH E r) := by
  have hn := ok.n
  have hz := hk.2.1
  have p7 : 2 ^ t.n ≤ 2 ^ 7 := Nat.pow_le_pow_right (by decide) hn
  have lp : ∀ m i, i + m = z → (∀ k, k < i → ∃ v, v < t.n ∧ r (a + 1) k = nI v) → ∃ b : Int32, (b = 1 ∧ whO t.n z (r (a + 1)) ∨ b = 0 ∧ ¬ whO t.n z (r (a + 1))) ∧ ∀ (v4 : Value) Q, (i ≤ 7 → True) → wG (d + 1) 40 (4, [.ref 11, .ref a, .int (nI (gWo (fun k => (r (a + 1) k).toNatClampNeg) i)), .int (nI i), v4], [], mkH E r) Q = Q (some (.int b)) (mkH E r) := by
    intro m
    induction m with
    | zero =>
      intro i hi h
      obtain rfl : i = z := by omega
      have hf : ∀ k, k < i → (r (a + 1) k).toNatClampNeg < t.n := fun k hk => by
        obtain ⟨v, hv, e⟩ := h k hk
        rw [e, nI_clamp (by omega)]; exact hv
      obtain ⟨A1, A2, A3⟩ := gWo_A (f := fun k => (r (a + 1) k).toNatClampNeg) hn i hf
      by_cases q : i = t.n
      · have hb := bcN t.n (by omega) _ A1
        by_cases q2 : gWo (fun k => (r (a + 1) k).toNatClampNeg) i = 2 ^ t.n - 1
        · refine ⟨1, Or.inl ⟨rfl, q, h, A3.mp ?_⟩, fun v4 Q _ => ?_⟩
          · rw [q2, bcA t.n (by omega), q]
          · rw [lp_X2_isWholeOrder_4 s_E ha, hk.1, if_neg (nI_nlt (Nat.le_refl _) (by omega)), hC.n, if_pos (congrArg nI q), all_C ok hC, if_pos (congrArg nI q2)]
        · refine ⟨0, Or.inr ⟨rfl, fun w => ?_⟩, fun v4 Q _ => ?_⟩
          · have := A3.mpr w.2.2
            rcases hb.2 with z | z
            · exact q2 z
            · omega
          · rw [lp_X2_isWholeOrder_4 s_E ha, hk.1, if_neg (nI_nlt (Nat.le_refl _) (by omega)), hC.n, if_pos (congrArg nI q), all_C ok hC, if_neg (fun w => q2 ((nI_eq (by omega) (by omega)).mp w))]
      · refine ⟨0, Or.inr ⟨rfl, fun w => q w.1⟩, fun v4 Q _ => ?_⟩
        rw [lp_X2_isWholeOrder_4 s_E ha, hk.1, if_neg (nI_nlt (Nat.le_refl _) (by omega)), hC.n, if_neg (fun w => q ((nI_eq (by omega) (by omega)).mp w))]
    | succ m ih =>
      intro i hi h
      have bad : (¬ ∃ v, v < t.n ∧ r (a + 1) i = nI v) → ¬ whO t.n z (r (a + 1)) := fun q w => q (w.2.1 i (by omega))
      by_cases q1 : r (a + 1) i < 0
      · refine ⟨0, Or.inr ⟨rfl, bad (fun ⟨v, hv, e⟩ => by rw [e] at q1; exact absurd q1 (nI_pos (by omega)))⟩, fun v4 Q _ => ?_⟩
        rw [lp_X2_isWholeOrder_4 s_E ha, hk.1, if_pos (nI_lt (by omega) (by omega)), at_in hk (by omega), if_pos q1]
      · obtain ⟨v, hv, e⟩ := nI_of q1
        by_cases q2 : v < t.n
        · obtain ⟨b, g1, g2⟩ := ih (i + 1) (by omega) (fun k hk => by
            by_cases qk : k = i
            · rw [qk]; exact ⟨v, q2, e⟩
            · exact h k (by omega))
          refine ⟨b, g1, fun v4 Q _ => ?_⟩
          rw [lp_X2_isWholeOrder_4 s_E ha, hk.1, if_pos (nI_lt (by omega) (by omega)), at_in hk (by omega), if_neg q1, hC.n, e, if_pos (nI_lt q2 (by omega)), sh31 (by omega), show (1 : Int32) = nI 1 from rfl, nI_shl (by omega), ← nI_or, Nat.one_shiftLeft, nI_add]
          have eg : gWo (fun k => (r (a + 1) k).toNatClampNeg) (i + 1) = gWo (fun k => (r (a + 1) k).toNatClampNeg) i ||| 2 ^ v := by
            show _ ||| 2 ^ (r (a + 1) i).toNatClampNeg = _
            rw [e, nI_clamp (by omega)]
          have := g2 (.int (nI v)) Q (fun _ => trivial)
          rw [eg] at this
          exact this
        · refine ⟨0, Or.inr ⟨rfl, bad (fun ⟨v', hv', e'⟩ => q2 (by have := (nI_eq hv (by omega)).mp (e.symm.trans e'); omega))⟩, fun v4 Q _ => ?_⟩
          rw [lp_X2_isWholeOrder_4 s_E ha, hk.1, if_pos (nI_lt (by omega) (by omega)), at_in hk (by omega), if_neg q1, hC.n, e, if_neg (nI_nlt (by omega) (by omega))]
  obtain ⟨b, g1, g2⟩ := lp z 0 (by omega) (fun k hk => absurd hk (by omega))
  exact ⟨b, g1, fun Q => (le_X2_isWholeOrder (d := d) s_E ha).trans (g2 _ Q (fun _ => trivial))⟩
end ORW
