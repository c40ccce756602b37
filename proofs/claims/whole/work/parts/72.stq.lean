section STQ
variable {d : Nat} {E : pEv} {r r' r1 r2 : Nat → Nat → Int32} {t t' : Th} {X : Tx} {Q : Option Value → pH → Prop}
theorem itc {s f : Nat} (hs : s < 7) (hf : f < 9) : ¬ ((10 + (10 * nI s)) + nI f) < 0 ∧ ((10 + (10 * nI s)) + nI f).toNatClampNeg < 264 := itb s hs f hf
/-- one number of a scene by set -/
theorem st_set1 (hI : Inv r) (xo : xOK X) (ok : tOK t) (hP : PI t X r r) {f j v : Nat} (hf : f = 3 ∨ f = 4 ∨ f = 8) (hj : j < t.n) (b3 : f = 3 → 1 ≤ v ∧ v ≤ 30) (b4 : f = 4 → v < 64) (b8 : f = 8 → v ≤ 1) : Inv (uI (uI r (13 + j) (f + 1) (nI v)) 102 (10 + 10 * j + f) (nI v)) := by
  obtain ⟨hC, hX, hM, hXM, hy⟩ := hP
  have hn := ok.n
  have o1 : tOK (t.up f j v) := tOK_up ok (by omega) (by omega) (by omega) (by omega) b3 b4 (by omega) (by omega) b8
  have c1 := tC_up ok (f := f) (s := j) (v := v) (by omega) hj (fun w => absurd w (by omega)) hC
  have m1 := tM_up ok (f := f) (s := j) (v := v) (r := uI r (13 + j) (f + 1) (nI v)) (by omega) hj (fun w => absurd w (by omega)) (tM_c hM (by omega))
  exact Inv_t hI xo hX hXM hy o1 (tC_m c1 o1.n) m1 (sE_tr (sE_u (by unfold PT; omega)) (sE_u (by unfold PT; omega)))
theorem st_set (s_E : oE E) (hI : Inv r) {x w y : Int32} : stI E d r 101 [.ref 10, .int x, .int w, .int y] 186 [.ref 101, .int x, .int w, .int y] := by
  obtain ⟨t, X, ok, xo, hP⟩ := hI.1
  obtain ⟨hC, hX, hM, hXM, hy⟩ := id hP
  have hn := ok.n
  have pC : ∀ Q, wX (d + 70) 101 [.ref 10, .int x, .int w, .int y] (mkH E r) Q = Q (some (.int (f_X9_set r x w y))) (mkH E (g_X9_set r x w y)) := fun Q => x_X9_set (d := d + 66) s_E (fun _ _ => by decide) (fun _ _ _ => by decide)
  unfold f_X9_set g_X9_set at pC
  have g3 : f_X10_in y.toInt64 1 30 = f_X9_within y 1 30 := in_l (a := 1) (b := 30)
  have g4 : f_X10_in y.toInt64 0 63 = f_X9_within y 0 63 := in_l (a := 0) (b := 63)
  have g6 : f_X10_in y.toInt64 0 1 = f_X9_within y 0 1 := in_l (a := 0) (b := 1)
  have sb : ∀ ra, tM t ra → ∀ f, f < 9 → (¬ f_X10_isScene ra x = 0) → ¬ ((10 + (10 * x)) + nI f) < 0 ∧ ((10 + (10 * x)) + nI f).toNatClampNeg < 264 := fun ra hra f hf q => by
    rw [gS_M hra] at q
    rcases gS_s ok x with h | ⟨j, hj, rfl, _⟩
    · exact absurd h q
    · exact itc (by omega) hf
  have pM : ∀ ra, tM t ra → ∀ Q, wX (d + 70) 186 [.ref 101, .int x, .int w, .int y] (mkH E ra) Q = Q (some (.int (f_X10_set ra x w y))) (mkH E (g_X10_set ra x w y)) := fun ra hra Q => x_X10_set (d := d + 67) s_E
    (fun _ q _ _ => sb ra hra 8 (by decide) q) (fun e q _ _ => by rw [e]; exact sb ra hra 3 (by decide) q) (fun _ _ q _ _ => sb ra hra 8 (by decide) q) (fun _ e q _ _ => by rw [e]; exact sb ra hra 4 (by decide) q) (fun _ _ e _ q _ => sb ra hra 8 (by decide) q) (fun _ _ e _ q n => absurd e n)
  have er : ∀ ra, tM t ra → (gS t x = 0 ∨ f_X5_mayHave w y = 0) → f_X10_set ra x w y = er 1 ∧ g_X10_set ra x w y = eM ra 1 := by
    intro ra hra q
    unfold f_X10_set g_X10_set
    unfold f_X5_mayHave at q
    rw [gS_M hra, g3, g4, g6]
    rcases q with q | q
    · rw [q]
      simp only [i00, if_true, ite_self, fi1, gi1]
      exact ⟨trivial, trivial⟩
    · by_cases w3 : w = 3
      · rw [if_pos w3] at q
        rw [if_pos w3, if_pos w3, q]
        simp only [i00, if_true, ite_self, fi1, gi1]
        exact ⟨trivial, trivial⟩
      · rw [if_neg w3] at q
        rw [if_neg w3, if_neg w3]
        by_cases w4 : w = 4
        · rw [if_pos w4] at q
          rw [if_pos w4, if_pos w4, q]
          simp only [i00, if_true, ite_self, fi1, gi1]
          exact ⟨trivial, trivial⟩
        · rw [if_neg w4] at q
          rw [if_neg w4, if_neg w4]
          by_cases w6 : w = 6
          · rw [w6, if_neg (by decide), if_pos rfl] at q
            rw [if_pos w6, if_pos w6, q]
            simp only [i00, if_true, ite_self, fi1, gi1]
            exact ⟨trivial, trivial⟩
          · rw [if_neg w6, if_neg w6]
            simp only [ite_self, fi1, gi1]
            exact ⟨trivial, trivial⟩
  have erS : (gS t x = 0 ∨ f_X5_mayHave w y = 0) → stI E d r 101 [.ref 10, .int x, .int w, .int y] 186 [.ref 101, .int x, .int w, .int y] := fun q => by
    refine st_e hI (k := 1) (by decide) (fun Q => ?_) (fun Q => ?_)
    · rw [pC, gS_C hC]
      rcases q with q | q
      · rw [q, i00, i00, er1, wr_f (by decide), wr_g (by decide)]
      · rw [q]
        simp only [i00, if_true, ite_self, er1, wr_f (show 1 ≤ 1 ∧ 1 ≤ 5 from by decide), wr_g (show 1 ≤ 1 ∧ 1 ≤ 5 from by decide)]
    · obtain ⟨e1, e2⟩ := er _ (tM_eC hM) q
      rw [pM _ (tM_eC hM), e1, e2]
  rcases gS_s ok x with h | ⟨j, hj, rfl, h⟩
  · exact erS (Or.inl h)
  · have go : ∀ f v, y = nI v → (f = 3 ∨ f = 4 ∨ f = 8) → (f = 3 → 1 ≤ v ∧ v ≤ 30) → (f = 4 → v < 64) → (f = 8 → v ≤ 1) → f_X5_mayHave w y = 1 → f_X5_change r (13 + j) w y = r (13 + j) (f + 1) → g_X5_change r (13 + j) w y = uI r (13 + j) (f + 1) y → (∀ ra, tM t ra → f_X10_set ra (nI j) w y = ra 102 (10 + 10 * j + f) ∧ g_X10_set ra (nI j) w y = uI ra 102 (10 + 10 * j + f) y) → stI E d r 101 [.ref 10, .int (nI j), .int w, .int y] 186 [.ref 101, .int (nI j), .int w, .int y] := by
      intro f v hv hf b3 b4 b8 hm hc1 hc2 hmm
      have hM1 : tM t (uI r (13 + j) (f + 1) (nI v)) := tM_c hM (by omega)
      refine ⟨r (13 + j) (f + 1), uI r (13 + j) (f + 1) (nI v), uI (uI r (13 + j) (f + 1) (nI v)) 102 (10 + 10 * j + f) (nI v), fun Q => ?_, fun Q => ?_, st_set1 hI xo ok hP hf hj b3 b4 b8⟩
      · rw [pC, gS_C hC, h, hm, sc_at (by omega), hc1, hc2, hv]
        simp only [i10]
      · obtain ⟨e1, e2⟩ := hmm _ hM1
        rw [pM _ hM1, e1, e2, hv]
        have ev : (uI r (13 + j) (f + 1) (nI v)) 102 (10 + 10 * j + f) = r (13 + j) (f + 1) := by
          rw [uI_o (by omega)]
          rcases hf with rfl | rfl | rfl
          · rw [hC.T j hj]; exact hM.T j hj
          · rw [hC.A j hj]; exact hM.A j hj
          · rw [hC.W j hj]; exact hM.W j hj
        rw [ev]
    by_cases w3 : w = 3
    · rcases wi_v (x := y) (a := 1) (m := 30) (by decide) (by decide) with h2 | ⟨v, v1, v2, hv, h2⟩
      · exact erS (Or.inr (by unfold f_X5_mayHave; rw [if_pos w3]; exact h2))
      · have h2 : f_X9_within y 1 30 = 1 := h2
        refine go 3 v hv (by omega) (fun _ => ⟨v1, v2⟩) (by omega) (by omega) (by unfold f_X5_mayHave; rw [if_pos w3]; exact h2) ?_ ?_ (fun ra hra => ?_)
        · rw [w3]; rfl
        · rw [w3]; rfl
        · unfold f_X10_set g_X10_set
          rw [gS_M hra, g3, h, h2, if_pos w3, if_pos w3]
          simp only [i10]
          rw [w3, if_neg (by decide), if_neg (by decide)]
          exact ⟨its_n (f := 3) (by omega) (by decide), puts_n (f := 3) (by omega) (by decide)⟩
    · by_cases w4 : w = 4
      · rcases wi_v (x := y) (a := 0) (m := 63) (by decide) (by decide) with h2 | ⟨v, v1, v2, hv, h2⟩
        · exact erS (Or.inr (by unfold f_X5_mayHave; rw [if_neg w3, if_pos w4]; exact h2))
        · have h2 : f_X9_within y 0 63 = 1 := h2
          refine go 4 v hv (by omega) (by omega) (fun _ => by omega) (by omega) (by unfold f_X5_mayHave; rw [if_neg w3, if_pos w4]; exact h2) ?_ ?_ (fun ra hra => ?_)
          · rw [w4]; rfl
          · rw [w4]; rfl
          · unfold f_X10_set g_X10_set
            rw [gS_M hra, g4, h, h2, if_neg w3, if_neg w3, if_pos w4, if_pos w4]
            simp only [i10]
            rw [w4, if_neg (by decide), if_neg (by decide)]
            exact ⟨its_n (f := 4) (by omega) (by decide), puts_n (f := 4) (by omega) (by decide)⟩
      · by_cases w6 : w = 6
        · have w5 : ¬ w = 5 := by rw [w6]; decide
          rcases wi_v (x := y) (a := 0) (m := 1) (by decide) (by decide) with h2 | ⟨v, v1, v2, hv, h2⟩
          · exact erS (Or.inr (by unfold f_X5_mayHave; rw [if_neg w3, if_neg w4, if_neg w5, if_pos w6]; exact h2))
          · have h2 : f_X9_within y 0 1 = 1 := h2
            refine go 8 v hv (by omega) (by omega) (by omega) (fun _ => v2) (by unfold f_X5_mayHave; rw [if_neg w3, if_neg w4, if_neg w5, if_pos w6]; exact h2) ?_ ?_ (fun ra hra => ?_)
            · rw [w6]; rfl
            · rw [w6]; rfl
            · unfold f_X10_set g_X10_set
              rw [gS_M hra, g6, h, h2, if_neg w3, if_neg w3, if_neg w4, if_neg w4, if_pos w6, if_pos w6]
              simp only [i10]
              rw [if_pos w6, if_pos w6]
              exact ⟨its_n (f := 8) (by omega) (by decide), puts_n (f := 8) (by omega) (by decide)⟩
        · exact erS (Or.inr (by
            unfold f_X5_mayHave
            rw [if_neg w3, if_neg w4, if_neg w6, ite_self]))
theorem st_told (s_E : oE E) (hI : Inv r) {x : Int32} : stI E d r 135 [.ref 10, .int x] 246 [.ref 101, .int x] := by
  have tl : ∀ u, u ≤ 5 → 1 ≤ u → (¬ (nI u - 1) < 0 ∧ (nI u - 1).toNatClampNeg < 5) ∧ (nI u - 1).toNatClampNeg = u - 1 := by decide +kernel
  have gM : f_X10_in x.toInt64 1 5 = f_X9_within x 1 5 := in_l (a := 1) (b := 5)
  have pC : ∀ Q, wX (d + 70) 135 [.ref 10, .int x] (mkH E r) Q = Q (some (.int (f_X9_told r x))) (mkH E (g_X9_told r x)) := fun Q => x_X9_told (d := d + 67) s_E (fun _ _ => by decide) (fun q => by
    rcases wi_v (x := x) (a := 1) (m := 5) (by decide) (by decide) with h | ⟨u, u1, hu, rfl, h⟩
    · exact absurd h q
    · exact (tl u hu u1).1)
  have pM : ∀ ra Q, wX (d + 70) 246 [.ref 101, .int x] (mkH E ra) Q = Q (some (.int (f_X10_told ra x))) (mkH E (g_X10_told ra x)) := fun ra Q => x_X10_told (d := d + 68) s_E (fun q => by
    rw [gM] at q
    rcases wi_v (x := x) (a := 1) (m := 5) (by decide) (by decide) with h | ⟨u, u1, hu, rfl, h⟩
    · exact absurd h q
    · exact ix_n (show u < 6 by omega) (by decide))
  unfold f_X9_told g_X9_told at pC
  unfold f_X10_told g_X10_told at pM
  rcases wi_v (x := x) (a := 1) (m := 5) (by decide) (by decide) with h | ⟨u, u1, hu, rfl, h⟩
  · have h : f_X9_within x 1 5 = 0 := h
    refine st_e hI (k := 1) (by decide) (fun Q => ?_) (fun Q => ?_)
    · rw [pC, h, i00, i00, er1, wr_f (by decide), wr_g (by decide)]
    · rw [pM, gM, h, i00, i00, fi1, gi1]
  · have h : f_X9_within (nI u) 1 5 = 1 := h
    refine ⟨r 104 u, r, r, fun Q => ?_, fun Q => ?_, hI⟩
    · rw [pC, h, i10, i10, (tl u hu u1).2, hI.2.2.1 u u1 hu]
    · rw [pM, gM, h, i10, i10, nI_clamp (by omega)]
theorem st_trace (s_E : oE E) (hI : Inv r) {x : Int32} : stI E d r 124 [.ref 10, .int x] 232 [.ref 101, .int x] := by
  obtain ⟨c, hc, h1, h2, h3⟩ := hI.2.2.2.1
  have gM : f_X10_in x.toInt64 0 ((nI c - 1).toInt64) = f_X9_within x 0 (nI c - 1) := in_l (a := 0) (b := nI c - 1)
  have cs : f_X9_within x 0 (nI c - 1) = 0 ∨ ∃ j, j < c ∧ x = nI j ∧ f_X9_within x 0 (nI c - 1) = 1 := by
    rcases Nat.eq_zero_or_pos c with h0 | h0
    · left
      rw [h0]
      unfold f_X9_within
      by_cases q : x < 0
      · rw [if_pos q]
      · obtain ⟨j, hj, rfl⟩ := nI_of q
        rw [if_neg q, if_pos]
        refine Int32.lt_iff_toInt_lt.mpr ?_
        rw [nI_toInt hj, show (nI 0 - 1).toInt = -1 from by decide]
        omega
    · obtain ⟨m, rfl⟩ : ∃ m, c = m + 1 := ⟨c - 1, by omega⟩
      rw [nI_pred]
      rcases wi_n (x := x) (m := m) (by omega) with ⟨q1, j, hj, hx⟩ | ⟨q1, q2⟩
      · exact Or.inr ⟨j, by omega, hx, q1⟩
      · exact Or.inl q1
  have pC : ∀ Q, wX (d + 70) 124 [.ref 10, .int x] (mkH E r) Q = Q (some (.int (f_X9_trace r x))) (mkH E (g_X9_trace r x)) := fun Q => x_X9_trace (d := d + 67) s_E (fun _ _ => by decide)
  have pM : ∀ ra, ra 101 19 = nI c → ∀ Q, wX (d + 70) 232 [.ref 101, .int x] (mkH E ra) Q = Q (some (.int (f_X10_trace ra x))) (mkH E (g_X10_trace ra x)) := fun ra hra Q => x_X10_trace (d := d + 68) s_E (fun q => by
    rw [hra, gM] at q
    rcases cs with h | ⟨j, hj, rfl, h⟩
    · exact absurd h q
    · exact ix_n (show j < 40 by omega) (by decide))
  unfold f_X9_trace g_X9_trace at pC
  unfold f_X10_trace g_X10_trace at pM
  rcases cs with h | ⟨j, hj, rfl, h⟩
  · have hra : eC r 2 101 19 = nI c := (uI_o (by omega)).trans h2
    refine st_e hI (k := 2) (by decide) (fun Q => ?_) (fun Q => ?_)
    · rw [pC, h1, h, i00, i00, er2, wr_f (by decide), wr_g (by decide)]
    · rw [pM _ hra, hra, gM, h, i00, i00, fi2, gi2]
  · refine ⟨r 111 j, r, r, fun Q => ?_, fun Q => ?_, hI⟩
    · rw [pC, h1, h, i10, i10, at_in (s := c) ⟨h1, hc, by decide⟩ hj, h3 j hj]
    · rw [pM _ h2, h2, gM, h, i10, i10, nI_clamp (by omega)]
end STQ
