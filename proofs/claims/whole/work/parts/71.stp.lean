/-! BACK, BECOME, SET, PROP, TELL, TOLD, TRACE: both sides alike -/
section STP
variable {d : Nat} {E : pEv} {r r' r1 r2 : Nat → Nat → Int32} {t t' : Th} {X : Tx} {Q : Option Value → pH → Prop}
theorem i00 {α : Type} {a b : α} : (if (0 : Int32) = 0 then a else b) = a := if_pos rfl
theorem i10 {α : Type} {a b : α} : (if (1 : Int32) = 0 then a else b) = b := if_neg (by decide)
theorem fiN : ∀ k, k ≤ 5 → f_X10_finds (nI k) = er k := by decide +kernel
theorem giN {k : Nat} (h : k ≤ 5) : g_X10_finds r (nI k) = eM r k := by
  unfold g_X10_finds eM
  rw [nI_clamp (by omega)]
theorem fi1 : f_X10_finds 1 = er 1 := fiN 1 (by decide)
theorem fi2 : f_X10_finds 2 = er 2 := fiN 2 (by decide)
theorem fi4 : f_X10_finds 4 = er 4 := fiN 4 (by decide)
theorem gi1 : g_X10_finds r 1 = eM r 1 := giN (k := 1) (by decide)
theorem gi2 : g_X10_finds r 2 = eM r 2 := giN (k := 2) (by decide)
theorem gi4 : g_X10_finds r 4 = eM r 4 := giN (k := 4) (by decide)
def PT : Nat → Nat → Prop := fun a k => (a = 11 ∧ (k = 7 ∨ k = 8)) ∨ (13 ≤ a ∧ a ≤ 20) ∨ a = 32 ∨ a = 33 ∨ (a = 102 ∧ (k = 0 ∨ k = 2 ∨ (10 ≤ k ∧ k ≤ 86))) ∨ SC a k ∨ SM a k
theorem Inv_t (hI : Inv r) (xo : xOK X) (hX : xC X r) (hXM : xM X r) (hy : yR r r) (ok' : tOK t') (hC' : tC t' r') (hM' : tM t' r') (s : sE PT r r') : Inv r' := Inv_pl hI ⟨t', X, ok', xo, hC', xC_f hX (fun a k q => s a k (by unfold rXC at q; unfold PT SC SM; omega)), hM', xM_f xo hXM (fun k q => s 102 k (by unfold rXM at q; unfold PT SC SM; omega)), yR_f hy (fun a k q => s a k (by unfold rYC at q; unfold PT SC SM; omega)) (fun k q => s 102 k (by unfold rYM at q; unfold PT SC SM; omega))⟩ (sE_mo s (fun a k q => by
  rcases q with q | q | q | q | q | q | q
  · exact Or.inl (by omega)
  · exact Or.inl (by omega)
  · exact Or.inl (by omega)
  · exact Or.inl (by omega)
  · exact Or.inr (Or.inl q.1)
  · exact Or.inr (Or.inr (Or.inl q))
  · exact Or.inr (Or.inr (Or.inr q))))
theorem tC_m {k : Nat} {v : Int32} (hC : tC t r) (hn : t.n ≤ 7) : tC t (uI r 102 k v) := tC_f hC hn (fun a k q => uI_o (by unfold rTC at q; omega))
theorem tM_c {a k : Nat} {v : Int32} (hM : tM t r) (ha : a ≠ 102) : tM t (uI r a k v) := hM.fr (funext fun j => uI_o (by omega))
theorem it_at : ∀ s, s < 7 → ∀ f, f < 9 → ((10 + (10 * nI s)) + nI f).toNatClampNeg = 10 + 10 * s + f := by decide +kernel
theorem puts_n {s f : Nat} {v : Int32} (hs : s < 7) (hf : f < 9) : g_X10_puts r (nI s) (nI f) v = uI r 102 (10 + 10 * s + f) v := by
  unfold g_X10_puts
  rw [it_at s hs f hf]
theorem its_n {s f : Nat} (hs : s < 7) (hf : f < 9) : f_X10_its r (nI s) (nI f) = r 102 (10 + 10 * s + f) := by
  unfold f_X10_its
  rw [it_at s hs f hf]
theorem itb : ∀ s, s < 7 → ∀ f, f < 9 → ¬ ((10 + (10 * nI s)) + nI f) < 0 ∧ ((10 + (10 * nI s)) + nI f).toNatClampNeg < 264 := by decide +kernel

theorem st_back (s_E : oE E) (hI : Inv r) {x : Int32} : stI E d r 105 [.ref 10, .int x] 199 [.ref 101, .int x] := by
  obtain ⟨t, X, ok, xo, hC, hX, hM, hXM, hy⟩ := hI.1
  have pC : ∀ Q, wX (d + 70) 105 [.ref 10, .int x] (mkH E r) Q = Q (some (.int (f_X9_back r x))) (mkH E (g_X9_back r x)) := fun Q => x_X9_back (d := d + 67) s_E (fun _ _ => by decide)
  have pM : ∀ ra Q, wX (d + 70) 199 [.ref 101, .int x] (mkH E ra) Q = Q (some (.int (f_X10_back ra x))) (mkH E (g_X10_back ra x)) := fun ra Q => x_X10_back (d := d + 68) s_E
  have gM : f_X10_in x.toInt64 0 1 = f_X9_within x 0 1 := in_l (a := 0) (b := 1)
  unfold f_X9_back g_X9_back at pC
  unfold f_X10_back g_X10_back at pM
  rcases wi_v (x := x) (a := 0) (m := 1) (by decide) (by decide) with h | ⟨u, _, hu, rfl, h⟩
  · have h : f_X9_within x 0 1 = 0 := h
    refine st_e hI (k := 1) (by decide) (fun Q => ?_) (fun Q => ?_)
    · rw [pC, h, i00, i00, er1, wr_f (by decide), wr_g (by decide)]
    · rw [pM, gM, h, i00, i00, fi1, gi1]
  · have h : f_X9_within (nI u) 0 1 = 1 := h
    refine ⟨r 11 8, uI r 11 8 (nI u), uI (uI r 11 8 (nI u)) 102 2 (nI u), fun Q => ?_, fun Q => ?_, Inv_t hI xo hX hXM hy (t' := t.up 11 0 u) (tOK_b ok hu) (tC_m (tC_b ok hC) ok.n) ?_ (sE_tr (sE_u (by unfold PT; omega)) (sE_u (by unfold PT; omega)))⟩
    · rw [pC, h, i10, i10]
    · rw [pM, gM, h, i10, i10, uI_o (by omega), hM.b, hC.b]
    · obtain ⟨h1, h3, h4, h5, h6, h7, h8, h9, h10, h11, h13, h14⟩ := tM_c (a := 11) (k := 8) (v := nI u) hM (by omega)
      refine ⟨?_, ?_, ?_, ?_, ?_, ?_, ?_, ?_, ?_, ?_, ?_, ?_⟩
      · rw [uI_o (by omega)]; exact h1
      · intro i hi; rw [uI_o (by omega)]; exact h3 i hi
      · intro i hi; rw [uI_o (by omega)]; exact h4 i hi
      · intro i hi; rw [uI_o (by omega)]; exact h5 i hi
      · intro i hi; rw [uI_o (by omega)]; exact h6 i hi
      · intro i hi; rw [uI_o (by omega)]; exact h7 i hi
      · intro i hi; rw [uI_o (by omega)]; exact h8 i hi
      · intro i hi hp; rw [uI_o (by omega)]; exact h9 i hi hp
      · intro i hi hp; rw [uI_o (by omega)]; exact h10 i hi hp
      · intro i hi; rw [uI_o (by omega)]; exact h11 i hi
      · intro i hi; rw [uI_o (by omega)]; exact h13 i hi
      · rw [uI_e]; rfl

theorem km_t : ∀ v, v < 70 → nI v / 10 = nI (v / 10) ∧ nI v - nI v / 10 * 10 = nI (v % 10) := by decide +kernel
theorem st_become (s_E : oE E) (hI : Inv r) {x y : Int32} : stI E d r 99 [.ref 10, .int x, .int y] 184 [.ref 101, .int x, .int y] := by
  obtain ⟨t, X, ok, xo, hC, hX, hM, hXM, hy⟩ := hI.1
  have hn := ok.n
  have pC : ∀ Q, wX (d + 70) 99 [.ref 10, .int x, .int y] (mkH E r) Q = Q (some (.int (f_X9_become r x y))) (mkH E (g_X9_become r x y)) := fun Q => x_X9_become (d := d + 67) s_E (fun _ _ => by decide) (fun _ _ _ => by decide)
  have gM : f_X10_in y.toInt64 0 69 = f_X9_within y 0 69 := in_l (a := 0) (b := 69)
  unfold f_X9_become g_X9_become at pC
  have gK : f_X9_isKindAndM y = f_X9_within y 0 69 := rfl
  have pM : ∀ ra, tM t ra → ∀ Q, wX (d + 70) 184 [.ref 101, .int x, .int y] (mkH E ra) Q = Q (some (.int (f_X10_become ra x y))) (mkH E (g_X10_become ra x y)) := fun ra hra Q => x_X10_become (d := d + 67) s_E
    (fun w _ => by
      rw [gS_M hra] at w
      rcases gS_s ok x with q | ⟨j, hj, rfl, _⟩
      · exact absurd q w
      · exact itb j (by omega) 0 (by decide))
    (fun w _ => by
      rw [gS_M hra] at w
      rcases gS_s ok x with q | ⟨j, hj, rfl, _⟩
      · exact absurd q w
      · exact itb j (by omega) 1 (by decide))
  unfold f_X10_become g_X10_become at pM
  rcases gS_s ok x with h | ⟨j, hj, rfl, h⟩
  · refine st_e hI (k := 1) (by decide) (fun Q => ?_) (fun Q => ?_)
    · rw [pC, gS_C hC, h, i00, i00, er1, wr_f (by decide), wr_g (by decide)]
    · rw [pM _ (tM_eC hM), gS_M (tM_eC hM), h, i00, i00, fi1, gi1]
  · rcases wi_v (x := y) (a := 0) (m := 69) (by decide) (by decide) with h2 | ⟨v, _, hv, rfl, h2⟩
    · have h2 : f_X9_within y 0 69 = 0 := h2
      refine st_e hI (k := 1) (by decide) (fun Q => ?_) (fun Q => ?_)
      · rw [pC, gS_C hC, h, gK, h2, i10, i10, i00, i00, er1, wr_f (by decide), wr_g (by decide)]
      · rw [pM _ (tM_eC hM), gS_M (tM_eC hM), h, gM, h2, i10, i10, i00, i00, fi1, gi1]
    · have h2 : f_X9_within (nI v) 0 69 = 1 := h2
      obtain ⟨k1, k2⟩ := km_t v (by omega)
      have c1 := tC_up ok (f := 0) (s := j) (v := v / 10) (by omega) hj (fun w => absurd w (by decide)) hC
      have o1 : tOK (t.up 0 j (v / 10)) := tOK_up ok (by omega) (fun _ => by omega) (by omega) (by omega) (by omega) (by omega) (by omega) (by omega) (by omega)
      have hj1 : j < (t.up 0 j (v / 10)).n := by rw [upT_n (by omega)]; exact hj
      have c2 := tC_up o1 (f := 1) (s := j) (v := v % 10) (by omega) hj1 (fun w => absurd w (by decide)) c1
      have o2 : tOK ((t.up 0 j (v / 10)).up 1 j (v % 10)) := tOK_up o1 (by omega) (by omega) (fun _ => by omega) (by omega) (by omega) (by omega) (by omega) (by omega) (by omega)
      have m0 : tM t (uI (uI r (13 + j) 1 (nI (v / 10))) (13 + j) 2 (nI (v % 10))) := tM_c (tM_c hM (by omega)) (by omega)
      have m1 := tM_up ok (f := 0) (s := j) (v := v / 10) (by omega) hj (fun w => absurd w (by decide)) m0
      have m2 := tM_up o1 (f := 1) (s := j) (v := v % 10) (by omega) hj1 (fun w => absurd w (by decide)) m1
      refine ⟨r (13 + j) 1, uI (uI r (13 + j) 1 (nI (v / 10))) (13 + j) 2 (nI (v % 10)), uI (uI (uI (uI r (13 + j) 1 (nI (v / 10))) (13 + j) 2 (nI (v % 10))) 102 (10 + 10 * j + 0) (nI (v / 10))) 102 (10 + 10 * j + 1) (nI (v % 10)), fun Q => ?_, fun Q => ?_, Inv_t hI xo hX hXM hy o2 (tC_m (tC_m c2 o2.n) o2.n) m2 (sE_tr (sE_u (by unfold PT; omega)) (sE_tr (sE_u (by unfold PT; omega)) (sE_tr (sE_u (by unfold PT; omega)) (sE_u (by unfold PT; omega)))))⟩
      · rw [pC, gS_C hC, h, gK, h2, i10, i10, i10, i10, sc_at (by omega), k2, k1]
      · rw [pM _ m0, gS_M m0, h, gM, h2, i10, i10, i10, i10, k2, k1]
        refine (congr (congrArg Q (congrArg some (congrArg Value.int ((its_n (f := 0) (by omega) (by decide)).trans ((m0.K j hj).trans (hC.K j hj).symm))))) (congrArg (mkH E) ?_))
        exact (puts_n (f := 1) (by omega) (by decide)).trans (by rw [show g_X10_puts _ (nI j) 0 _ = _ from puts_n (f := 0) (by omega) (by decide)])
end STP
