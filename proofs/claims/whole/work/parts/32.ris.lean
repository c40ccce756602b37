section RI
variable {d : Nat} {E : pEv} {ro : Nat → Nat → Int32} {Q : Option Value → pH → Prop} {t : Th}
/-- one scene more: how many rise again, and who is dead -/
def ri1 (t : Th) (s : Nat) (a : Nat × Nat) : Nat × Nat := (a.1 + bc (t.A s &&& a.2), a.2 ||| ks t (hp t) s)
def ri (t : Th) : Nat := (it (fun k a => ri1 t (t.o k) a) t.n 0 (0, 0)).1
theorem hp_lt (ok : tOK t) : hp t < 128 := Nat.lt_of_lt_of_le (oc_ltk (k := t.n)) (p128 ok)
theorem and64 {a b : Nat} (h : b < 64) : a &&& b < 128 := Nat.lt_of_le_of_lt Nat.and_le_right (by omega)
theorem x_X2_rises (s_E : oE E) (ok : tOK t) (hC : tC t ro) : wX (d + 5) 38 [.ref 11] (mkH E ro) Q = Q (some (.int (nI (ri t)))) (mkH E ro) := by
  have hn := ok.n
  refine (en_X2_rises (d := d + 4) s_E).trans ?_
  refine (x_X2_happening s_E ok hC).trans ?_
  refine (sg_X2_rises_4 (d := d + 4) s_E).trans ?_
  have key : ∀ k i (a : Nat × Nat) v5, i + k = t.n → a.2 < 64 → wG (d + 4) 38 (12, [.ref 11, .int (nI (hp t)), .int (nI a.1), .int (nI a.2), .int (nI i), v5], [], mkH E ro) Q = Q (some (.int (nI (it (fun k a => ri1 t (t.o k) a) k i a).1))) (mkH E ro) := by
    intro k
    induction k with
    | zero =>
      intro i a v5 hi ha
      rw [sg_X2_rises_12 s_E, hC.n, if_neg (nI_nlt (by omega) (by omega))]
      rfl
    | succ k ih =>
      intro i a v5 hi ha
      have hit : i < t.n := by omega
      have ho := ok.o i hit
      have h7 : t.o i < 7 := by omega
      rw [sg_X2_rises_12 s_E, hC.n, if_pos (nI_lt hit (by omega))]
      refine (x_X4_at (d := d + 3) (c_h0 := 7) s_E (oR rfl)).trans ?_
      rw [at_in (rK32 ok hC) hit, hC.o i hit]
      refine (sg_X2_rises_30 (d := d + 4) s_E).trans ?_
      refine (x_X2_at (d := d + 3) s_E oP11).trans ?_
      rw [sc_at h7]
      refine (sg_X2_rises_39 (d := d + 4) s_E (oS11 h7)).trans ?_
      refine (x_J6_bitCount_0f7a4 (d := d + 3) s_E).trans ?_
      rw [hC.A _ ho, ← nI_and, nI_bc (and64 ha)]
      refine (sg_X2_rises_47 (d := d + 4) s_E).trans ?_
      refine (x_X2_killedBy s_E ok hC ho (hp_lt ok)).trans ?_
      refine (sg_X2_rises_57 (d := d + 4) s_E).trans ?_
      rw [nI_add, ← nI_or, ← nI_succ]
      exact ih (i + 1) (ri1 t (t.o i) a) _ (by omega) (Nat.or_lt_two_pow (n := 6) ha ks_lt)
  exact key t.n 0 (0, 0) _ (by omega) (by decide)
theorem o_at {k : Nat} (h : k < 7) : (80 + nI k).toNatClampNeg = 80 + k ∧ ¬ (80 + nI k) < 0 := by
  have : ∀ k, k < 7 → (80 + nI k).toNatClampNeg = 80 + k ∧ ¬ (80 + nI k) < 0 := by decide +kernel
  exact this k h
theorem or_ll {a b : Nat} (ha : a < 64) (hb : b < 64) : (if ll a < 0 then nI b ||| 0 else nI b ||| ((1 : Int32) <<< (ll a &&& 31))) = nI (b ||| lw a) := by
  have : ∀ a, a < 64 → (if ll a < 0 then 0 else ((1 : Int32) <<< (ll a &&& 31))) = nI (lw a) := by decide +kernel
  rw [nI_or, ← this a ha]
  split <;> rfl
theorem x_X10_rises (s_E : oE E) (ok : tOK t) (hM : tM t ro) : wX (d + 5) 195 [.ref 101] (mkH E ro) Q = Q (some (.int (nI (ri t)))) (mkH E ro) := by
  have hn := ok.n
  refine (en_X10_rises (d := d + 4) s_E).trans ?_
  refine (x_all s_E ok hM).trans ?_
  refine (sg_X10_rises_4 (d := d + 4) s_E).trans ?_
  have key : ∀ k i (a : Nat × Nat) v5 v6, i + k = t.n → a.2 < 64 → wG (d + 4) 195 (12, [.ref 101, .int (nI (hp t)), .int (nI a.2), .int (nI a.1), .int (nI i), v5, v6], [], mkH E ro) Q = Q (some (.int (nI (it (fun k a => ri1 t (t.o k) a) k i a).1))) (mkH E ro) := by
    intro k
    induction k with
    | zero =>
      intro i a v5 v6 hi ha
      have hlt : ¬ nI i < nI t.n := nI_nlt (by omega) (by omega)
      refine (sg_X10_rises_12 s_E (fun h => absurd (hM.n ▸ h) hlt)).trans ?_
      rw [hM.n, if_neg hlt]
      rfl
    | succ k ih =>
      intro i a v5 v6 hi ha
      have hit : i < t.n := by omega
      have ho := ok.o i hit
      have h7 : t.o i < 7 := by omega
      have oa := o_at (show i < 7 by omega)
      refine (sg_X10_rises_12 s_E (fun _ => ⟨oa.2, by omega⟩)).trans ?_
      rw [hM.n, if_pos (nI_lt hit (by omega)), oa.1, hM.o i hit]
      refine (x_its (w := 4) s_E h7 (by decide)).trans ?_
      rw [hM.A _ ho]
      refine (sg_X10_rises_43 (d := d + 4) s_E).trans ?_
      rw [← nI_and]
      refine (x_X10_ones s_E (and64 ha)).trans ?_
      refine (sg_X10_rises_48 (d := d + 4) s_E).trans ?_
      refine (x_X10_kills (d := d + 2) s_E ok hM ho (hp_lt ok)).trans ?_
      refine (sg_X10_rises_57 (d := d + 4) s_E).trans ?_
      rw [nI_add, ← nI_succ]
      have hA := ok.A _ ho
      have fin : ∀ (x : Int32) v6, x = nI (a.2 ||| ks t (hp t) (t.o i)) → wG (d + 4) 195 (12, [.ref 101, .int (nI (hp t)), .int x, .int (nI (a.1 + bc (t.A (t.o i) &&& a.2))), .int (nI (i + 1)), .int (nI (t.o i)), v6], [], mkH E ro) Q = Q (some (.int (nI (it (fun k a => ri1 t (t.o k) a) (k + 1) i a).1))) (mkH E ro) := by
        intro x v6 hx
        subst hx
        exact ih (i + 1) (ri1 t (t.o i) a) _ _ (by omega) (Nat.or_lt_two_pow (n := 6) ha ks_lt)
      by_cases hk : kd t (hp t) (t.o i) = true
      · have e : ks t (hp t) (t.o i) = lw (t.A (t.o i)) := by unfold ks; rw [if_pos hk]
        have h := or_ll hA ha
        rw [if_pos hk]
        by_cases h1 : ll (t.A (t.o i)) < 0
        · rw [if_pos h1] at h ⊢
          exact fin _ _ (by rw [e, h])
        · rw [if_neg h1] at h ⊢
          exact fin _ _ (by rw [e, h])
      · have e : ks t (hp t) (t.o i) = 0 := by unfold ks; rw [if_neg hk]
        rw [if_neg hk, if_pos (by decide)]
        exact fin _ _ (by rw [e]; simp)
  exact key t.n 0 (0, 0) _ _ (by omega) (by decide)
end RI
