/-! THE ORDER CHANGED: turn, place -/
def Th.ord (t : Th) (o' : Nat → Nat) : Th := fun a b => if a = 9 then o' b else t a b
def fO (r : Nat → Nat → Int32) (a b s : Nat) (g : Nat → Int32) : Nat → Nat → Int32 := fun x y => if x = a ∧ b ≤ y ∧ y < b + s then g (y - b) else r x y
section ORD
variable {d : Nat} {E : pEv} {r r' r1 r2 : Nat → Nat → Int32} {t t' : Th} {X : Tx} {Q : Option Value → pH → Prop} {o' : Nat → Nat}
theorem fO_0 {a b : Nat} {g : Nat → Int32} : fO r a b 0 g = r := by
  funext x y
  unfold fO
  rw [if_neg (by omega)]
theorem fO_s {a b s : Nat} {g : Nat → Int32} : uI (fO r a b s g) a (b + s) (g s) = fO r a b (s + 1) g := by
  funext x y
  rw [uI_at]
  unfold fO
  by_cases h : x = a ∧ y = b + s
  · rw [if_pos h, if_pos (by omega), show y - b = s by omega]
  · rw [if_neg h]
    by_cases h2 : x = a ∧ b ≤ y ∧ y < b + s
    · rw [if_pos h2, if_pos (by omega)]
    · rw [if_neg h2, if_neg (by omega)]
theorem fO_o {a b s x y : Nat} {g : Nat → Int32} (h : x ≠ a ∨ y < b ∨ b + s ≤ y) : fO r a b s g x y = r x y := by
  unfold fO
  rw [if_neg (by omega)]
theorem fO_e {a b s k : Nat} {g : Nat → Int32} (h : k < s) : fO r a b s g a (b + k) = g k := by
  unfold fO
  rw [if_pos (by omega), show b + k - b = k by omega]
theorem fO_E {P : Nat → Nat → Prop} {a b s : Nat} {g : Nat → Int32} (h : ∀ k, b ≤ k → k < b + s → P a k) : sE P r (fO r a b s g) := fun x y q => fO_o (by
  by_cases e : x = a
  · subst e
    rcases Nat.lt_or_ge y b with w | w
    · omega
    · rcases Nat.lt_or_ge y (b + s) with w2 | w2
      · exact absurd (h y w w2) q
      · omega
  · omega)
theorem fR_E {P : Nat → Nat → Prop} {a s : Nat} {g : Nat → Int32} (h : ∀ k, k < s → P a k) : sE P r (fR r a s g) := fun x y q => by
  unfold fR
  rw [if_neg (fun w => q (by rw [w.1]; exact h y w.2))]
theorem tOK_ord (ok : tOK t) (h1 : ∀ i, i < t.n → o' i < t.n) (h2 : ∀ i j, i < t.n → j < t.n → o' i = o' j → i = j) : tOK (t.ord o') := ⟨ok.n, ok.K, ok.M, ok.C, ok.T, ok.A, ok.P, ok.F, ok.G, ok.W, h1, h2, ok.b⟩
theorem tC_ord (hC : tC t r) (hn : t.n ≤ 7) (e : ∀ a k, rTC a k → a ≠ 33 → r' a k = r a k) (h : ∀ i, i < t.n → r' 33 i = nI (o' i)) : tC (t.ord o') r' := by
  obtain ⟨h1, h2, h3, h4, h5, h6, h7, h8, h9, h10, h11, h12, h13, h14, h15⟩ := hC
  refine ⟨?_, ?_, ?_, ?_, ?_, ?_, ?_, ?_, ?_, ?_, ?_, ?_, h, ?_, ?_⟩
  · rw [e _ _ (by unfold rTC; omega) (by omega)]; exact h1
  · intro i hi; rw [e _ _ (by unfold rTC; omega) (by omega)]; exact h2 i hi
  · intro i (hi : i < t.n); rw [e _ _ (by unfold rTC; omega) (by omega)]; exact h3 i hi
  · intro i (hi : i < t.n); rw [e _ _ (by unfold rTC; omega) (by omega)]; exact h4 i hi
  · intro i (hi : i < t.n); rw [e _ _ (by unfold rTC; omega) (by omega)]; exact h5 i hi
  · intro i (hi : i < t.n); rw [e _ _ (by unfold rTC; omega) (by omega)]; exact h6 i hi
  · intro i (hi : i < t.n); rw [e _ _ (by unfold rTC; omega) (by omega)]; exact h7 i hi
  · intro i (hi : i < t.n); rw [e _ _ (by unfold rTC; omega) (by omega)]; exact h8 i hi
  · intro i (hi : i < t.n) hp; rw [e _ _ (by unfold rTC; omega) (by omega)]; exact h9 i hi hp
  · intro i (hi : i < t.n) hp; rw [e _ _ (by unfold rTC; omega) (by omega)]; exact h10 i hi hp
  · intro i (hi : i < t.n); rw [e _ _ (by unfold rTC; omega) (by omega)]; exact h11 i hi
  · rw [e _ _ (by unfold rTC; omega) (by omega)]; exact h12
  · rw [e _ _ (by unfold rTC; omega) (by omega)]; exact h14
  · rw [e _ _ (by unfold rTC; omega) (by omega)]; exact h15
theorem tM_ord (hM : tM t r) (hn : t.n ≤ 7) (e : ∀ k, rTM k → ¬ (80 ≤ k) → r' 102 k = r 102 k) (h : ∀ i, i < t.n → r' 102 (80 + i) = nI (o' i)) : tM (t.ord o') r' := by
  obtain ⟨h1, h3, h4, h5, h6, h7, h8, h9, h10, h11, h13, h14⟩ := hM
  refine ⟨?_, ?_, ?_, ?_, ?_, ?_, ?_, ?_, ?_, ?_, h, ?_⟩
  · rw [e _ (by unfold rTM; omega) (by omega)]; exact h1
  · intro i (hi : i < t.n); rw [e _ (by unfold rTM; omega) (by omega)]; exact h3 i hi
  · intro i (hi : i < t.n); rw [e _ (by unfold rTM; omega) (by omega)]; exact h4 i hi
  · intro i (hi : i < t.n); rw [e _ (by unfold rTM; omega) (by omega)]; exact h5 i hi
  · intro i (hi : i < t.n); rw [e _ (by unfold rTM; omega) (by omega)]; exact h6 i hi
  · intro i (hi : i < t.n); rw [e _ (by unfold rTM; omega) (by omega)]; exact h7 i hi
  · intro i (hi : i < t.n); rw [e _ (by unfold rTM; omega) (by omega)]; exact h8 i hi
  · intro i (hi : i < t.n) hp; rw [e _ (by unfold rTM; omega) (by omega)]; exact h9 i hi hp
  · intro i (hi : i < t.n) hp; rw [e _ (by unfold rTM; omega) (by omega)]; exact h10 i hi hp
  · intro i (hi : i < t.n); rw [e _ (by unfold rTM; omega) (by omega)]; exact h11 i hi
  · rw [e _ (by unfold rTM; omega) (by omega)]; exact h14
/-- only the order, scratch -/
def PO : Nat → Nat → Prop := fun a k => a = 33 ∨ (a = 102 ∧ 80 ≤ k ∧ k ≤ 86) ∨ SC a k ∨ SM a k
theorem Inv_o (hI : Inv r) (ok : tOK t) (xo : xOK X) (hP : PI t X r r) (h1 : ∀ i, i < t.n → o' i < t.n) (h2 : ∀ i j, i < t.n → j < t.n → o' i = o' j → i = j) (hc : ∀ i, i < t.n → r' 33 i = nI (o' i)) (hm : ∀ i, i < t.n → r' 102 (80 + i) = nI (o' i)) (s : sE PO r r') : Inv r' := by
  obtain ⟨hC, hX, hM, hXM, hy⟩ := hP
  exact Inv_t hI xo hX hXM hy (tOK_ord ok h1 h2) (tC_ord hC ok.n (fun a k q w => s a k (by unfold rTC at q; unfold PO SC SM; omega)) hc) (tM_ord hM ok.n (fun k q w => s 102 k (by unfold rTM at q; unfold PO SC SM; omega)) hm) (sE_mo s (fun a k q => by
    rcases q with q | q | q | q
    · exact Or.inr (Or.inr (Or.inr (Or.inl q)))
    · exact Or.inr (Or.inr (Or.inr (Or.inr (Or.inl ⟨q.1, by omega⟩))))
    · exact Or.inr (Or.inr (Or.inr (Or.inr (Or.inr (Or.inl q)))))
    · exact Or.inr (Or.inr (Or.inr (Or.inr (Or.inr (Or.inr q)))))))
theorem st_turn (s_E : oE E) (hI : Inv r) : stI E d r 109 [.ref 10] 204 [.ref 101] := by
  obtain ⟨t, X, ok, xo, hP⟩ := hI.1
  obtain ⟨hC, hX, hM, hXM, hy⟩ := id hP
  have hn := ok.n
  have hM1 : tM t (fR r 33 t.n (fun j => r 33 (t.n - 1 - j))) := hM.fr (fR_o (by omega))
  obtain ⟨ra, s1, hW, e1⟩ := x_rowAsGiven (d := d + 68) (E := E) s_E ok hM1
  have gn : ∀ i, i < t.n → ra 106 (t.n - 1 - i) = nI (t.o (t.n - 1 - i)) := fun i hi => (hW _ (by omega)).1
  have loop : ∀ Q, ∀ m i, i + m = t.n → wG (d + 69) 204 (6, [.ref 101, .int (nI i)], [], mkH E (fO ra 102 80 i (fun j => nI (t.o (t.n - 1 - j))))) Q = Q (some (.int (nI t.n))) (mkH E (fO ra 102 80 t.n (fun j => nI (t.o (t.n - 1 - j))))) := by
    intro Q m
    have hn0 : ∀ i, (fO ra 102 80 i (fun j => nI (t.o (t.n - 1 - j)))) 102 0 = nI t.n := fun i => by
      rw [fO_o (by omega), s1 102 0 (by omega)]; exact hM1.n
    have hsub : ∀ n, n < 8 → ∀ i, i < n → (nI n - 1) - nI i = nI (n - 1 - i) := by decide +kernel
    induction m with
    | zero =>
      intro i hi
      obtain rfl : i = t.n := by omega
      refine (sg_X10_turn_6 (d := d + 69) s_E (fun q => ?_) (fun q => ?_)).trans ?_
      · rw [hn0] at q; exact absurd q (nI_nlt (Nat.le_refl _) (by omega))
      · rw [hn0] at q; exact absurd q (nI_nlt (Nat.le_refl _) (by omega))
      · rw [hn0, if_neg (nI_nlt (Nat.le_refl _) (by omega))]
    | succ m ih =>
      intro i hi
      have oa := o_at (show i < 7 by omega)
      refine (sg_X10_turn_6 (d := d + 69) s_E (fun q => ?_) (fun q => ⟨oa.2, by omega⟩)).trans ?_
      · rw [hn0, hsub _ (by omega) i (by omega)]
        exact ix_n (by omega) (by decide)
      · rw [hn0, if_pos (nI_lt (by omega) (by omega)), hsub _ (by omega) i (by omega), nI_clamp (by omega), oa.1, fO_o (x := 106) (by omega), gn i (by omega), fO_s (g := fun j => nI (t.o (t.n - 1 - j))), ← nI_succ]
        exact ih (i + 1) (by omega)
  refine ⟨nI t.n, fR r 33 t.n (fun j => r 33 (t.n - 1 - j)), fO ra 102 80 t.n (fun j => nI (t.o (t.n - 1 - j))), fun Q => ?_, fun Q => ?_, Inv_o hI ok xo hP (o' := fun j => t.o (t.n - 1 - j)) (fun i hi => ok.o _ (by omega)) (fun i j hi hj q => ?_) (fun i hi => ?_) (fun i hi => fO_e hi) ?_⟩
  · refine (en_X9_turn (d := d + 69) s_E).trans ?_
    refine (x_X4_reverse (d := d + 66) s_E (oR rfl) (rK32 ok hC)).trans ?_
    refine (sg_X9_turn_10 (d := d + 69) s_E).trans ?_
    rw [fR_o (b := 11) (by omega), hC.n]
  · refine (en_X10_turn (d := d + 69) s_E).trans ?_
    refine (e1 _).trans ?_
    refine (sg_X10_turn_4 (d := d + 69) s_E).trans ?_
    have q := loop Q t.n 0 (by omega)
    rw [fO_0] at q
    exact q
  · have := ok.oi _ _ (show t.n - 1 - i < t.n by omega) (show t.n - 1 - j < t.n by omega) q
    omega
  · rw [fO_o (by omega), s1 33 i (by omega), fR_at hi]
    exact hC.o _ (by omega)
  · exact sE_tr (fR_E (fun k _ => by unfold PO; omega)) (sE_tr (sE_mo s1 (fun a k q => by unfold PO SM; omega)) (fO_E (fun k h1 h2 => by unfold PO; omega)))
end ORD
