/-! WHAT A CALL ANSWERS, on both sides: calls that change nothing but errors and scratch -/
def oCx (E : pEv) (ro : Nat → Nat → Int32) (W : (Option Value → pH → Prop) → Prop) (res : Int32 ⊕ Nat) : Prop := match res with
  | .inl v => ∃ r', sE SC ro r' ∧ ∀ Q, W Q = Q (some (.int v)) (mkH E r')
  | .inr k => (1 ≤ k ∧ k ≤ 5) ∧ ∃ r', sE SC ro r' ∧ ∀ Q, W Q = Q (some (.int (er k))) (mkH E (eC r' k))
def oMx (E : pEv) (ro : Nat → Nat → Int32) (W : (Option Value → pH → Prop) → Prop) (res : Int32 ⊕ Nat) : Prop := match res with
  | .inl v => ∃ r', sE SM ro r' ∧ ∀ Q, W Q = Q (some (.int v)) (mkH E r')
  | .inr k => (1 ≤ k ∧ k ≤ 5) ∧ ∃ r', sE SM ro r' ∧ ∀ Q, W Q = Q (some (.int (er k))) (mkH E (eM r' k))
def RO (d : Nat) (E : pEv) (t : Th) (X : Tx) (mc : Nat) (ac : List Value) (mm : Nat) (am : List Value) : Prop := ∀ ro r1, tC t ro → xC X ro → czz ro → tM t r1 → xM X r1 → ∃ res, oCx E ro (wX (d + 70) mc ac (mkH E ro)) res ∧ oMx E r1 (wX (d + 70) mm am (mkH E r1)) res
section RO
variable {d : Nat} {E : pEv} {ro r1 : Nat → Nat → Int32} {t : Th} {X : Tx} {W : (Option Value → pH → Prop) → Prop} {v : Int32} {k : Nat}
theorem oC_v (h : ∀ Q, W Q = Q (some (.int v)) (mkH E ro)) : oCx E ro W (.inl v) := ⟨ro, sE_rf, h⟩
theorem oM_v (h : ∀ Q, W Q = Q (some (.int v)) (mkH E ro)) : oMx E ro W (.inl v) := ⟨ro, sE_rf, h⟩
theorem oC_e (hk : 1 ≤ k ∧ k ≤ 5) (h : ∀ Q, W Q = Q (some (.int (er k))) (mkH E (eC ro k))) : oCx E ro W (.inr k) := ⟨hk, ro, sE_rf, h⟩
theorem oM_e (hk : 1 ≤ k ∧ k ≤ 5) (h : ∀ Q, W Q = Q (some (.int (er k))) (mkH E (eM ro k))) : oMx E ro W (.inr k) := ⟨hk, ro, sE_rf, h⟩
/-- the guard of a scene, or of a place -/
def gS (t : Th) (x : Int32) : Int32 := f_X9_within x 0 (nI t.n - 1)
theorem gS_C (hC : tC t ro) (x : Int32) : f_X9_stands ro x = gS t x := by unfold f_X9_stands gS; rw [hC.n]
theorem gP_C (hC : tC t ro) (x : Int32) : f_X9_isPlace ro x = gS t x := by unfold f_X9_isPlace gS; rw [hC.n]
theorem gS_M (hM : tM t r1) (x : Int32) : f_X10_isScene r1 x = gS t x := by
  unfold f_X10_isScene gS
  rw [hM.n]
  exact in_l (a := 0)
theorem gP_M (hM : tM t r1) (x : Int32) : f_X10_in x.toInt64 0 ((r1 102 0 - 1).toInt64) = gS t x := by
  unfold gS
  rw [hM.n]
  exact in_l (a := 0)
theorem gS_s (ok : tOK t) (x : Int32) : gS t x = 0 ∨ ∃ j, j < t.n ∧ x = nI j ∧ gS t x = 1 := by
  have e : f_X9_stands (fun _ _ => nI t.n) x = gS t x := rfl
  have hn := ok.n
  unfold gS
  rcases Nat.eq_zero_or_pos t.n with h0 | h0
  · left
    rw [h0]
    unfold f_X9_within
    by_cases h1 : x < 0
    · rw [if_pos h1]
    · obtain ⟨j, hj, rfl⟩ := nI_of h1
      rw [if_neg h1, if_pos]
      refine Int32.lt_iff_toInt_lt.mpr ?_
      rw [nI_toInt hj, show (nI 0 - 1).toInt = -1 from by decide]
      omega
  · obtain ⟨m, hm⟩ : ∃ m, t.n = m + 1 := ⟨t.n - 1, by omega⟩
    rw [hm, nI_pred]
    rcases wi_n (x := x) (m := m) (by omega) with ⟨h1, j, hj, hx⟩ | ⟨h1, h2⟩
    · exact Or.inr ⟨j, by omega, hx, h1⟩
    · exact Or.inl h1
theorem er1 : (-1000000001 : Int32) = er 1 := by decide
theorem er2 : (-1000000002 : Int32) = er 2 := by decide
theorem er3 : (-1000000003 : Int32) = er 3 := by decide
theorem er4 : (-1000000004 : Int32) = er 4 := by decide
theorem er5 : (-1000000005 : Int32) = er 5 := by decide
theorem wi_v {x : Int32} {a m : Nat} (hm : m < 2 ^ 31) (ha : a < 2 ^ 31) : f_X9_within x (nI a) (nI m) = 0 ∨ ∃ j, a ≤ j ∧ j ≤ m ∧ x = nI j ∧ f_X9_within x (nI a) (nI m) = 1 := by
  unfold f_X9_within
  by_cases h1 : x < nI a
  · exact Or.inl (by rw [if_pos h1])
  · have h0 : ¬ x < 0 := fun h => h1 (by
      have := Int32.lt_iff_toInt_lt.mp h
      refine Int32.lt_iff_toInt_lt.mpr ?_
      rw [nI_toInt ha]
      have e : (0 : Int32).toInt = 0 := by decide
      rw [e] at this
      omega)
    obtain ⟨j, hj, rfl⟩ := nI_of h0
    have haj : a ≤ j := by
      rcases Nat.lt_or_ge j a with q | q
      · exact absurd (nI_lt q ha) h1
      · exact q
    by_cases h2 : j ≤ m
    · exact Or.inr ⟨j, haj, h2, rfl, by rw [if_neg h1, if_neg (nI_nlt h2 hm)]⟩
    · exact Or.inl (by rw [if_neg h1, if_pos (nI_lt (by omega) hj)])

theorem ro_comes (s_E : oE E) (ok : tOK t) : RO d E t X 102 [.ref 10] 187 [.ref 101] := by
  intro ro r1 hC hX hz hM hXM
  exact ⟨.inl (nI (hp t)), oC_v (fun Q => x_X9_comes (d := d + 65) s_E ok hC), oM_v (fun Q => x_X10_comes (d := d + 65) s_E ok hM)⟩
theorem ro_flaw (s_E : oE E) (ok : tOK t) : RO d E t X 108 [.ref 10] 203 [.ref 101] := by
  intro ro r1 hC hX hz hM hXM
  by_cases h : fb t < 0
  · exact ⟨.inr 2, oC_e (by decide) (fun Q => by rw [x_X9_flaw (d := d + 63) s_E ok hC, if_pos h]), oM_e (by decide) (fun Q => by rw [x_X10_flaw (d := d + 64) s_E ok hM, if_pos h])⟩
  · exact ⟨.inl (fb t), oC_v (fun Q => by rw [x_X9_flaw (d := d + 63) s_E ok hC, if_neg h]), oM_v (fun Q => by rw [x_X10_flaw (d := d + 64) s_E ok hM, if_neg h])⟩
theorem ro_understood (s_E : oE E) (ok : tOK t) {x : Int32} : RO d E t X 107 [.ref 10, .int x] 202 [.ref 101, .int x] := by
  intro ro r1 hC hX hz hM hXM
  by_cases h : ∃ j, j < t.n ∧ x = nI j
  · obtain ⟨j, hj, rfl⟩ := h
    exact ⟨.inl (nI (un t j)), oC_v (fun Q => x_X9_understood (d := d + 66) s_E ok hC hj), oM_v (fun Q => x_X10_understood (d := d + 67) s_E ok hM hj)⟩
  · exact ⟨.inr 1, oC_e (by decide) (fun Q => x_X9_understood' (d := d + 66) s_E ok hC h), oM_e (by decide) (fun Q => x_X10_understood' (d := d + 67) s_E ok hM h)⟩

theorem ro_given (s_E : oE E) (ok : tOK t) {x : Int32} : RO d E t X 103 [.ref 10, .int x] 196 [.ref 101, .int x] := by
  intro ro r1 hC hX hz hM hXM
  have hn := ok.n
  have pC : ∀ Q, wX (d + 70) 103 [.ref 10, .int x] (mkH E ro) Q = _ := fun Q => (en_X9_given (d := d + 69) s_E).trans ((x_X9_isPlace (d := d + 67) s_E).trans (sg_X9_given_5 (d := d + 69) s_E))
  rcases gS_s ok x with h | ⟨j, hj, rfl, h⟩
  · refine ⟨.inr 1, oC_e (by decide) (fun Q => ?_), oM_e (by decide) (fun Q => ?_)⟩
    · rw [pC, gP_C hC, h, if_pos rfl, er1]
      refine (x_wr (d := d + 67) s_E (by decide)).trans ?_
      exact sg_X9_given_14 (d := d + 69) s_E
    · refine (en_X10_given (d := d + 69) s_E).trans ?_
      refine (x_X10_in (d := d + 68) s_E).trans ?_
      rw [gP_M hM, h]
      refine (sg_X10_given_15 (d := d + 69) s_E (fun q => absurd rfl q)).trans ?_
      rw [if_pos rfl]
      refine (x_fin (d := d + 68) (k := 1) s_E (by decide)).trans ?_
      exact sg_X10_given_35 (d := d + 69) s_E
  · have oa := o_at (show j < 7 by omega)
    refine ⟨.inl (nI (t.o j)), oC_v (fun Q => ?_), oM_v (fun Q => ?_)⟩
    · rw [pC, gP_C hC, h, if_neg (by decide)]
      refine (x_X4_at (d := d + 68) (c_h0 := 7) s_E (oR rfl)).trans ?_
      rw [at_in (rK32 ok hC) hj, hC.o j hj]
      exact sg_X9_given_26 (d := d + 69) s_E
    · refine (en_X10_given (d := d + 69) s_E).trans ?_
      refine (x_X10_in (d := d + 68) s_E).trans ?_
      rw [gP_M hM, h]
      refine (sg_X10_given_15 (d := d + 69) s_E (fun _ => ⟨oa.2, by omega⟩)).trans ?_
      rw [if_neg (by decide), oa.1, hM.o j hj]
theorem ro_guess (s_E : oE E) (ok : tOK t) (xo : xOK X) {x : Int32} : RO d E t X 106 [.ref 10, .int x] 201 [.ref 101, .int x] := by
  intro ro r1 hC hX hz hM hXM
  have hn := ok.n
  have pC : ∀ Q, wX (d + 70) 106 [.ref 10, .int x] (mkH E ro) Q = _ := fun Q => (en_X9_guess (d := d + 69) s_E).trans ((x_X9_isPlace (d := d + 67) s_E).trans (sg_X9_guess_5 (d := d + 69) s_E))
  have pM : ∀ Q, wX (d + 70) 201 [.ref 101, .int x] (mkH E r1) Q = _ := fun Q => (en_X10_guess (d := d + 69) s_E).trans ((x_X10_in (d := d + 68) s_E).trans (sg_X10_guess_15 (d := d + 69) s_E))
  rcases gS_s ok x with h | ⟨j, hj, rfl, h⟩
  · refine ⟨.inr 1, oC_e (by decide) (fun Q => ?_), oM_e (by decide) (fun Q => ?_)⟩
    · rw [pC, gP_C hC, h, if_pos rfl, er1]
      refine (x_wr (d := d + 67) s_E (by decide)).trans ?_
      exact sg_X9_guess_14 (d := d + 69) s_E
    · rw [pM, gP_M hM, h, if_pos rfl]
      refine (x_fin (d := d + 68) (k := 1) s_E (by decide)).trans ?_
      exact sg_X10_guess_31 (d := d + 69) s_E
  · obtain ⟨r', s1, e1⟩ := x_guessAt (d := d + 63) (X := X) s_E ok hC xo hX hj
    obtain ⟨r2, s2, e2⟩ := x_guessOfM (d := d + 15) (X := X) s_E ok hM xo hXM hj
    refine ⟨.inl (nI (gAt t X t.o j)), ⟨r', w23 s1, fun Q => ?_⟩, ⟨r2, s2, fun Q => ?_⟩⟩
    · rw [pC, gP_C hC, h, if_neg (by decide)]
      refine (e1 _).trans ?_
      exact sg_X9_guess_23 (d := d + 69) s_E
    · rw [pM, gP_M hM, h, if_neg (by decide)]
      refine (e2 _).trans ?_
      exact sg_X10_guess_23 (d := d + 69) s_E
theorem w2u {u : Nat} {r r' : Nat → Nat → Int32} (hu : u < 2) (s : sE (wP (23 + 5 * u)) r r') : sE SC r r' := sE_mo s (fun a k h => by unfold wP at h; unfold SC; omega)
theorem m51 {r r' : Nat → Nat → Int32} (s : sE (fun a k => a = 105 ∨ (a = 101 ∧ 4 ≤ k ∧ k ≤ 9)) r r') : sE SM r r' := sE_mo s (fun a k h => by unfold SM; omega)
theorem ro_law (s_E : oE E) (xo : xOK X) {x a b c : Int32} : RO d E t X 112 [.ref 10, .int x, .int a, .int b, .int c] 174 [.ref 101, .int x, .int a, .int b, .int c] := by
  intro ro r1 hC hX hz hM hXM
  have pC : ∀ Q, wX (d + 70) 112 [.ref 10, .int x, .int a, .int b, .int c] (mkH E ro) Q = _ := fun Q => (en_X9_law (d := d + 69) s_E).trans ((x_X9_isUse (d := d + 67) s_E).trans (sg_X9_law_4 (d := d + 69) s_E))
  have pM : ∀ Q, wX (d + 70) 174 [.ref 101, .int x, .int a, .int b, .int c] (mkH E r1) Q = _ := fun Q => (en_X10_law (d := d + 69) s_E).trans ((x_X10_in (d := d + 68) s_E).trans (sg_X10_law_7 (d := d + 69) s_E))
  have gM : f_X10_in x.toInt64 0 1 = f_X9_within x 0 1 := in_l (a := 0) (b := 1)
  have gC : f_X9_isUse x = f_X9_within x 0 1 := rfl
  rcases wi_v (x := x) (a := 0) (m := 1) (by decide) (by decide) with h | ⟨u, _, hu, rfl, h⟩
  · have h : f_X9_within x 0 1 = 0 := h
    refine ⟨.inr 1, oC_e (by decide) (fun Q => ?_), oM_e (by decide) (fun Q => ?_)⟩
    · rw [pC, gC, h, if_pos rfl, er1]
      refine (x_wr (d := d + 67) s_E (by decide)).trans ?_
      exact sg_X9_law_13 (d := d + 69) s_E
    · rw [pM, gM, h, if_pos rfl]
      refine (x_fin (d := d + 68) (k := 1) s_E (by decide)).trans ?_
      exact sg_X10_law_27 (d := d + 69) s_E
  · have h : f_X9_within (nI u) 0 1 = 1 := h
    have hu2 : u < 2 := by omega
    obtain ⟨r', s1, e1⟩ := x_gives (d := d + 65) (x := a) (y := b) (z := c) s_E hu2 (xo u hu2) (hX.1 u hu2) (hX.2 u hu2)
    obtain ⟨r2, s2, e2⟩ := x_textGives (d := d + 18) (x := a) (y := b) (z := c) s_E hu2 (xo u hu2) (hXM u hu2)
    refine ⟨.inl (gvT (X u).1 (X u).2 u a b c), ⟨r', w2u hu2 s1, fun Q => ?_⟩, ⟨r2, m51 s2, fun Q => ?_⟩⟩
    · have el : f_X2_lawOf (nI u) = 22 + 5 * u := by
        have : ∀ u, u < 2 → f_X2_lawOf (nI u) = 22 + 5 * u := by decide
        exact this u hu2
      rw [pC, gC, h, if_neg (by decide)]
      refine (x_X2_lawOf (d := d + 68) s_E).trans ?_
      refine (sg_X9_law_22 (d := d + 69) s_E oLw_of).trans ?_
      rw [el]
      refine (e1 _).trans ?_
      exact sg_X9_law_29 (d := d + 69) s_E
    · rw [pM, gM, h, if_neg (by decide)]
      refine (e2 _).trans ?_
      exact sg_X10_law_19 (d := d + 69) s_E

theorem as_t : ∀ k, k < 7 → ∀ u, u < 7 → (uK k u = 0 ↔ ¬ (nI u = 0 ∨ nI u = nI k ∨ nI u = f_X10_above (nI k))) := by decide +kernel
theorem ro_as (s_E : oE E) (ok : tOK t) {x y : Int32} : RO d E t X 100 [.ref 10, .int x, .int y] 185 [.ref 101, .int x, .int y] := by
  intro ro r1 hC hX hz hM hXM
  have hn := ok.n
  have pC : ∀ Q, wX (d + 70) 100 [.ref 10, .int x, .int y] (mkH E ro) Q = _ := fun Q => (en_X9_as (d := d + 69) s_E).trans ((x_X9_stands (d := d + 67) s_E).trans (sg_X9_as_5 (d := d + 69) s_E))
  have pM : ∀ Q, wX (d + 70) 185 [.ref 101, .int x, .int y] (mkH E r1) Q = _ := fun Q => (en_X10_as (d := d + 69) s_E).trans ((x_X10_isScene (d := d + 67) s_E).trans (sg_X10_as_5 (d := d + 69) s_E))
  have gM : f_X10_in y.toInt64 0 6 = f_X9_within y 0 6 := in_l (a := 0) (b := 6)
  have eC1 : ∀ Q, wX (d + 69) 136 [.ref 10, .int (-1000000001)] (mkH E ro) (fun v h' => wG (d + 69) 100 (24, [.ref 10, .int x, .int y], pv v [], h') Q) = Q (some (.int (er 1))) (mkH E (eC ro 1)) := fun Q => by
    rw [er1]
    refine (x_wr (d := d + 67) s_E (by decide)).trans ?_
    exact sg_X9_as_24 (d := d + 69) s_E
  have eM1 : ∀ v3 Q, wX (d + 69) 153 [.ref 101, .int 1] (mkH E r1) (fun v h' => wG (d + 69) 185 (25, [.ref 101, .int x, .int y, v3], pv v [], h') Q) = Q (some (.int (er 1))) (mkH E (eM r1 1)) := fun v3 Q => by
    refine (x_fin (d := d + 68) (k := 1) s_E (by decide)).trans ?_
    exact sg_X10_as_25 (d := d + 69) s_E
  rcases gS_s ok x with h | ⟨j, hj, rfl, h⟩
  · refine ⟨.inr 1, oC_e (by decide) (fun Q => ?_), oM_e (by decide) (fun Q => ?_)⟩
    · rw [pC, gS_C hC, h, if_pos rfl]; exact eC1 Q
    · rw [pM, gS_M hM, h, if_pos rfl]; exact eM1 _ Q
  · have h7 : j < 7 := by omega
    have hK := ok.K j hj
    rcases wi_v (x := y) (a := 0) (m := 6) (by decide) (by decide) with h2 | ⟨u, _, hu, rfl, h2⟩
    · have h2 : f_X9_within y 0 6 = 0 := h2
      refine ⟨.inr 1, oC_e (by decide) (fun Q => ?_), oM_e (by decide) (fun Q => ?_)⟩
      · rw [pC, gS_C hC, h, if_neg (by decide)]
        refine (x_X9_within (d := d + 68) s_E).trans ?_
        rw [h2]
        refine (sg_X9_as_15 (d := d + 69) s_E).trans ?_
        rw [if_pos rfl]; exact eC1 Q
      · rw [pM, gS_M hM, h, if_neg (by decide)]
        refine (x_X10_in (d := d + 68) s_E).trans ?_
        rw [gM, h2]
        refine (sg_X10_as_17 (d := d + 69) s_E).trans ?_
        rw [if_pos rfl]; exact eM1 _ Q
    · have h2 : f_X9_within (nI u) 0 6 = 1 := h2
      have qC : ∀ Q, wX (d + 70) 100 [.ref 10, .int (nI j), .int (nI u)] (mkH E ro) Q = wG (d + 69) 100 (40, [.ref 10, .int (nI j), .int (nI u)], [.int (uK (t.K j) u)], mkH E ro) Q := fun Q => by
        rw [pC, gS_C hC, h, if_neg (by decide)]
        refine (x_X9_within (d := d + 68) s_E).trans ?_
        rw [h2]
        refine (sg_X9_as_15 (d := d + 69) s_E).trans ?_
        rw [if_neg (by decide)]
        refine (x_X2_at (d := d + 68) s_E oP11).trans ?_
        rw [sc_at h7]
        refine (sg_X9_as_33 (d := d + 69) s_E (oS11 h7)).trans ?_
        rw [hC.K j hj]
        refine (x_X9_isUnder0 (d := d + 66) s_E).trans ?_
        rw [vK_t hK (by omega)]
        rfl
      have qM : ∀ Q, wX (d + 70) 185 [.ref 101, .int (nI j), .int (nI u)] (mkH E r1) Q = wG (d + 69) 185 (32, [.ref 101, .int (nI j), .int (nI u), .retAddr 0], [.int (nI (t.K j))], mkH E r1) Q := fun Q => by
        rw [pM, gS_M hM, h, if_neg (by decide)]
        refine (x_X10_in (d := d + 68) s_E).trans ?_
        rw [gM, h2]
        refine (sg_X10_as_17 (d := d + 69) s_E).trans ?_
        rw [if_neg (by decide)]
        refine (x_its (w := 0) s_E h7 (by decide)).trans ?_
        rw [show 10 + 10 * j + 0 = 10 + 10 * j from rfl, hM.K j hj]
        rfl
      have fM : ∀ x3 Q, wX (d + 69) 157 [.ref 101, .int (nI j), .int 1] (mkH E r1) (fun v h' => wG (d + 69) 185 (56, [.ref 101, .int (nI j), .int (nI u), .int x3], pv v [], h') Q) = Q (some (.int (nI (t.M j)))) (mkH E r1) := fun x3 Q => by
        refine (x_its (w := 1) s_E h7 (by decide)).trans ?_
        rw [hM.M j hj]
        exact sg_X10_as_56 (d := d + 69) s_E
      have ht := as_t (t.K j) hK u (by omega)
      by_cases h3 : uK (t.K j) u = 0
      · have h4 := ht.mp h3
        refine ⟨.inr 5, oC_e (by decide) (fun Q => ?_), oM_e (by decide) (fun Q => ?_)⟩
        · rw [qC, h3]
          refine (sg_X9_as_40 (d := d + 69) s_E).trans ?_
          rw [if_pos rfl, er5]
          refine (x_wr (d := d + 67) s_E (by decide)).trans ?_
          exact sg_X9_as_49 (d := d + 69) s_E
        · rw [qM]
          refine (sg_X10_as_32 (d := d + 69) s_E).trans ?_
          rw [if_neg (fun q => h4 (Or.inl q)), if_neg (fun q => h4 (Or.inr (Or.inl q)))]
          refine (x_X10_above (d := d + 68) s_E).trans ?_
          refine (sg_X10_as_47 (d := d + 69) s_E).trans ?_
          rw [if_neg (fun q => h4 (Or.inr (Or.inr q)))]
          refine (x_fin (d := d + 68) (k := 5) s_E (by decide)).trans ?_
          exact sg_X10_as_64 (d := d + 69) s_E
      · have h4 : nI u = 0 ∨ nI u = nI (t.K j) ∨ nI u = f_X10_above (nI (t.K j)) := Classical.byContradiction (fun q => h3 (ht.mpr q))
        refine ⟨.inl (nI (t.M j)), oC_v (fun Q => ?_), oM_v (fun Q => ?_)⟩
        · rw [qC]
          refine (sg_X9_as_40 (d := d + 69) s_E).trans ?_
          rw [if_neg h3]
          refine (x_X2_at (d := d + 68) s_E oP11).trans ?_
          rw [sc_at h7]
          refine (sg_X9_as_58 (d := d + 69) s_E (oS11 h7)).trans ?_
          rw [hC.M j hj]
        · rw [qM]
          refine (sg_X10_as_32 (d := d + 69) s_E).trans ?_
          by_cases c1 : nI u = 0
          · rw [if_pos c1]; exact fM _ Q
          · rw [if_neg c1]
            by_cases c2 : nI u = nI (t.K j)
            · rw [if_pos c2]; exact fM _ Q
            · rw [if_neg c2]
              refine (x_X10_above (d := d + 68) s_E).trans ?_
              refine (sg_X10_as_47 (d := d + 69) s_E).trans ?_
              rw [if_pos (h4.resolve_left c1 |>.resolve_left c2)]
              exact fM _ Q

theorem le_ks {c s : Nat} (ok : tOK t) (hs : s < t.n) : f_X9_leastOf (nI (ks t c s)) = if kd t c s then ll (t.A s) else -1 := by
  unfold ks
  split
  · exact least_lw (ok.A s hs)
  · decide
theorem ro_ofScene (s_E : oE E) (ok : tOK t) {x y : Int32} : RO d E t X 98 [.ref 10, .int x, .int y] 183 [.ref 101, .int x, .int y] := by
  intro ro r1 hC hX hz hM hXM
  have hn := ok.n
  have pC : ∀ Q, wX (d + 70) 98 [.ref 10, .int x, .int y] (mkH E ro) Q = _ := fun Q => (en_X9_ofScene (d := d + 69) s_E).trans ((x_X9_stands (d := d + 67) s_E).trans (sg_X9_ofScene_5 (d := d + 69) s_E))
  have pM : ∀ Q, wX (d + 70) 183 [.ref 101, .int x, .int y] (mkH E r1) Q = _ := fun Q => (en_X10_ofScene (d := d + 69) s_E).trans ((x_X10_isScene (d := d + 67) s_E).trans (sg_X10_ofScene_5 (d := d + 69) s_E))
  have gM : f_X10_in y.toInt64 0 10 = f_X9_within y 0 10 := in_l (a := 0) (b := 10)
  have eC1 : ∀ v3 Q, wX (d + 69) 136 [.ref 10, .int (-1000000001)] (mkH E ro) (fun v h' => wG (d + 69) 98 (24, [.ref 10, .int x, .int y, v3], pv v [], h') Q) = Q (some (.int (er 1))) (mkH E (eC ro 1)) := fun v3 Q => by
    rw [er1]
    refine (x_wr (d := d + 67) s_E (by decide)).trans ?_
    exact sg_X9_ofScene_24 (d := d + 69) s_E
  have eM1 : ∀ Q, wX (d + 69) 153 [.ref 101, .int 1] (mkH E r1) (fun v h' => wG (d + 69) 183 (25, [.ref 101, .int x, .int y], pv v [], h') Q) = Q (some (.int (er 1))) (mkH E (eM r1 1)) := fun Q => by
    refine (x_fin (d := d + 68) (k := 1) s_E (by decide)).trans ?_
    exact sg_X10_ofScene_25 (d := d + 69) s_E
  rcases gS_s ok x with h | ⟨j, hj, rfl, h⟩
  · refine ⟨.inr 1, oC_e (by decide) (fun Q => ?_), oM_e (by decide) (fun Q => ?_)⟩
    · rw [pC, gS_C hC, h, if_pos rfl]; exact eC1 _ Q
    · rw [pM, gS_M hM, h, if_pos rfl]; exact eM1 Q
  · have h7 : j < 7 := by omega
    have hj128 := hp_lt ok
    rcases wi_v (x := y) (a := 0) (m := 10) (by decide) (by decide) with h2 | ⟨w, _, hw, rfl, h2⟩
    · have h2 : f_X9_within y 0 10 = 0 := h2
      refine ⟨.inr 1, oC_e (by decide) (fun Q => ?_), oM_e (by decide) (fun Q => ?_)⟩
      · rw [pC, gS_C hC, h, if_neg (by decide)]
        refine (x_X9_within (d := d + 68) s_E).trans ?_
        rw [h2]
        refine (sg_X9_ofScene_15 (d := d + 69) s_E).trans ?_
        rw [if_pos rfl]; exact eC1 _ Q
      · rw [pM, gS_M hM, h, if_neg (by decide)]
        refine (x_X10_in (d := d + 68) s_E).trans ?_
        rw [gM, h2]
        refine (sg_X10_ofScene_17 (d := d + 69) s_E).trans ?_
        rw [if_pos rfl]; exact eM1 Q
    · have h2 : f_X9_within (nI w) 0 10 = 1 := h2
      have qC : ∀ Q, wX (d + 70) 98 [.ref 10, .int (nI j), .int (nI w)] (mkH E ro) Q = wG (d + 69) 98 (32, [.ref 10, .int (nI j), .int (nI w), .retAddr 0], [.int (nI (hp t))], mkH E ro) Q := fun Q => by
        rw [pC, gS_C hC, h, if_neg (by decide)]
        refine (x_X9_within (d := d + 68) s_E).trans ?_
        rw [h2]
        refine (sg_X9_ofScene_15 (d := d + 69) s_E).trans ?_
        rw [if_neg (by decide)]
        refine (x_X2_happening (d := d + 65) s_E ok hC).trans ?_
        rfl
      have qM : ∀ Q, wX (d + 70) 183 [.ref 101, .int (nI j), .int (nI w)] (mkH E r1) Q = wG (d + 69) 183 (17, [.ref 101, .int (nI j), .int (nI w)], [.int 1], mkH E r1) Q := fun Q => by
        rw [pM, gS_M hM, h, if_neg (by decide)]
        refine (x_X10_in (d := d + 68) s_E).trans ?_
        rw [gM, h2]
        rfl
      have own : ∀ (w : Nat) x3 (Q : Option Value → pH → Prop), wX (d + 69) 20 [.ref 11, .int (nI j)] (mkH E ro) (fun v h' => wG (d + 69) 98 (104, [.ref 10, .int (nI j), .int (nI w), .int x3], pv v [], h') Q) = Q (some (.int (f_X5_own ro (13 + j) (nI w)))) (mkH E ro) := fun w x3 Q => by
        refine (x_X2_at (d := d + 68) s_E oP11).trans ?_
        rw [sc_at h7]
        refine (sg_X9_ofScene_104 (d := d + 69) s_E (oS11 h7)).trans ?_
        refine (x_X5_own (d := d + 67) s_E (oS11 h7)).trans ?_
        exact sg_X9_ofScene_108 (d := d + 69) s_E
      have its : ∀ (w : Nat) (Q : Option Value → pH → Prop), w < 10 → wX (d + 69) 157 [.ref 101, .int (nI j), .int (nI w)] (mkH E r1) (fun v h' => wG (d + 69) 183 (113, [.ref 101, .int (nI j), .int (nI w)], pv v [], h') Q) = Q (some (.int (r1 102 (10 + 10 * j + w)))) (mkH E r1) := fun w Q hw => by
        refine (x_its (w := w) s_E h7 hw).trans ?_
        exact sg_X10_ofScene_113 (d := d + 69) s_E
      clear pC pM gM eC1 eM1 h h2 hX hXM hz
      have hw' : w = 0 ∨ w = 1 ∨ w = 2 ∨ w = 3 ∨ w = 4 ∨ w = 5 ∨ w = 6 ∨ w = 7 ∨ w = 8 ∨ w = 9 ∨ w = 10 := by omega
      rcases hw' with rfl | rfl | rfl | rfl | rfl | rfl | rfl | rfl | rfl | rfl | rfl
      · refine ⟨.inl (nI (t.K j)), oC_v (fun Q => ?_), oM_v (fun Q => ?_)⟩
        · rw [qC]
          refine (sg_X9_ofScene_32 (d := d + 69) s_E).trans ?_
          rw [if_neg (show ¬ nI 0 = 7 from by decide), if_neg (show ¬ nI 0 = 8 from by decide), if_neg (show ¬ nI 0 = 9 from by decide), if_neg (show ¬ nI 0 = 10 from by decide)]
          refine (own 0 _ Q).trans ?_
          unfold f_X5_own
          rw [if_pos (show nI 0 = 0 from rfl), hC.K j hj]
        · rw [qM]
          refine (sg_X10_ofScene_17 (d := d + 69) s_E).trans ?_
          rw [if_neg (show ¬ (1 : Int32) = 0 from by decide), if_neg (show ¬ nI 0 = 6 from by decide), if_neg (show ¬ nI 0 = 7 from by decide), if_neg (show ¬ nI 0 = 8 from by decide), if_neg (show ¬ nI 0 = 9 from by decide), if_neg (show ¬ nI 0 = 10 from by decide)]
          refine (its 0 Q (by decide)).trans ?_
          rw [show 10 + 10 * j + 0 = 10 + 10 * j from rfl, hM.K j hj]
      · refine ⟨.inl (nI (t.M j)), oC_v (fun Q => ?_), oM_v (fun Q => ?_)⟩
        · rw [qC]
          refine (sg_X9_ofScene_32 (d := d + 69) s_E).trans ?_
          rw [if_neg (show ¬ nI 1 = 7 from by decide), if_neg (show ¬ nI 1 = 8 from by decide), if_neg (show ¬ nI 1 = 9 from by decide), if_neg (show ¬ nI 1 = 10 from by decide)]
          refine (own 1 _ Q).trans ?_
          unfold f_X5_own
          rw [if_neg (show ¬ nI 1 = 0 from by decide), if_pos (show nI 1 = 1 from rfl), hC.M j hj]
        · rw [qM]
          refine (sg_X10_ofScene_17 (d := d + 69) s_E).trans ?_
          rw [if_neg (show ¬ (1 : Int32) = 0 from by decide), if_neg (show ¬ nI 1 = 6 from by decide), if_neg (show ¬ nI 1 = 7 from by decide), if_neg (show ¬ nI 1 = 8 from by decide), if_neg (show ¬ nI 1 = 9 from by decide), if_neg (show ¬ nI 1 = 10 from by decide)]
          refine (its 1 Q (by decide)).trans ?_
          rw [hM.M j hj]
      · refine ⟨.inl (nI (t.C j)), oC_v (fun Q => ?_), oM_v (fun Q => ?_)⟩
        · rw [qC]
          refine (sg_X9_ofScene_32 (d := d + 69) s_E).trans ?_
          rw [if_neg (show ¬ nI 2 = 7 from by decide), if_neg (show ¬ nI 2 = 8 from by decide), if_neg (show ¬ nI 2 = 9 from by decide), if_neg (show ¬ nI 2 = 10 from by decide)]
          refine (own 2 _ Q).trans ?_
          unfold f_X5_own
          rw [if_neg (show ¬ nI 2 = 0 from by decide), if_neg (show ¬ nI 2 = 1 from by decide), if_pos (show nI 2 = 2 from rfl), hC.C j hj]
        · rw [qM]
          refine (sg_X10_ofScene_17 (d := d + 69) s_E).trans ?_
          rw [if_neg (show ¬ (1 : Int32) = 0 from by decide), if_neg (show ¬ nI 2 = 6 from by decide), if_neg (show ¬ nI 2 = 7 from by decide), if_neg (show ¬ nI 2 = 8 from by decide), if_neg (show ¬ nI 2 = 9 from by decide), if_neg (show ¬ nI 2 = 10 from by decide)]
          refine (its 2 Q (by decide)).trans ?_
          rw [hM.C j hj]
      · refine ⟨.inl (nI (t.T j)), oC_v (fun Q => ?_), oM_v (fun Q => ?_)⟩
        · rw [qC]
          refine (sg_X9_ofScene_32 (d := d + 69) s_E).trans ?_
          rw [if_neg (show ¬ nI 3 = 7 from by decide), if_neg (show ¬ nI 3 = 8 from by decide), if_neg (show ¬ nI 3 = 9 from by decide), if_neg (show ¬ nI 3 = 10 from by decide)]
          refine (own 3 _ Q).trans ?_
          unfold f_X5_own
          rw [if_neg (show ¬ nI 3 = 0 from by decide), if_neg (show ¬ nI 3 = 1 from by decide), if_neg (show ¬ nI 3 = 2 from by decide), if_pos (show nI 3 = 3 from rfl), hC.T j hj]
        · rw [qM]
          refine (sg_X10_ofScene_17 (d := d + 69) s_E).trans ?_
          rw [if_neg (show ¬ (1 : Int32) = 0 from by decide), if_neg (show ¬ nI 3 = 6 from by decide), if_neg (show ¬ nI 3 = 7 from by decide), if_neg (show ¬ nI 3 = 8 from by decide), if_neg (show ¬ nI 3 = 9 from by decide), if_neg (show ¬ nI 3 = 10 from by decide)]
          refine (its 3 Q (by decide)).trans ?_
          rw [hM.T j hj]
      · refine ⟨.inl (nI (t.A j)), oC_v (fun Q => ?_), oM_v (fun Q => ?_)⟩
        · rw [qC]
          refine (sg_X9_ofScene_32 (d := d + 69) s_E).trans ?_
          rw [if_neg (show ¬ nI 4 = 7 from by decide), if_neg (show ¬ nI 4 = 8 from by decide), if_neg (show ¬ nI 4 = 9 from by decide), if_neg (show ¬ nI 4 = 10 from by decide)]
          refine (own 4 _ Q).trans ?_
          unfold f_X5_own
          rw [if_neg (show ¬ nI 4 = 0 from by decide), if_neg (show ¬ nI 4 = 1 from by decide), if_neg (show ¬ nI 4 = 2 from by decide), if_neg (show ¬ nI 4 = 3 from by decide), if_pos (show nI 4 = 4 from rfl), hC.A j hj]
        · rw [qM]
          refine (sg_X10_ofScene_17 (d := d + 69) s_E).trans ?_
          rw [if_neg (show ¬ (1 : Int32) = 0 from by decide), if_neg (show ¬ nI 4 = 6 from by decide), if_neg (show ¬ nI 4 = 7 from by decide), if_neg (show ¬ nI 4 = 8 from by decide), if_neg (show ¬ nI 4 = 9 from by decide), if_neg (show ¬ nI 4 = 10 from by decide)]
          refine (its 4 Q (by decide)).trans ?_
          rw [hM.A j hj]
      · refine ⟨.inl (nI (t.P j)), oC_v (fun Q => ?_), oM_v (fun Q => ?_)⟩
        · rw [qC]
          refine (sg_X9_ofScene_32 (d := d + 69) s_E).trans ?_
          rw [if_neg (show ¬ nI 5 = 7 from by decide), if_neg (show ¬ nI 5 = 8 from by decide), if_neg (show ¬ nI 5 = 9 from by decide), if_neg (show ¬ nI 5 = 10 from by decide)]
          refine (own 5 _ Q).trans ?_
          unfold f_X5_own
          rw [if_neg (show ¬ nI 5 = 0 from by decide), if_neg (show ¬ nI 5 = 1 from by decide), if_neg (show ¬ nI 5 = 2 from by decide), if_neg (show ¬ nI 5 = 3 from by decide), if_neg (show ¬ nI 5 = 4 from by decide), if_pos (show nI 5 = 5 from rfl), hC.P j hj]
        · rw [qM]
          refine (sg_X10_ofScene_17 (d := d + 69) s_E).trans ?_
          rw [if_neg (show ¬ (1 : Int32) = 0 from by decide), if_neg (show ¬ nI 5 = 6 from by decide), if_neg (show ¬ nI 5 = 7 from by decide), if_neg (show ¬ nI 5 = 8 from by decide), if_neg (show ¬ nI 5 = 9 from by decide), if_neg (show ¬ nI 5 = 10 from by decide)]
          refine (its 5 Q (by decide)).trans ?_
          rw [hM.P j hj]
      · refine ⟨.inl (nI (t.W j)), oC_v (fun Q => ?_), oM_v (fun Q => ?_)⟩
        · rw [qC]
          refine (sg_X9_ofScene_32 (d := d + 69) s_E).trans ?_
          rw [if_neg (show ¬ nI 6 = 7 from by decide), if_neg (show ¬ nI 6 = 8 from by decide), if_neg (show ¬ nI 6 = 9 from by decide), if_neg (show ¬ nI 6 = 10 from by decide)]
          refine (own 6 _ Q).trans ?_
          unfold f_X5_own
          rw [if_neg (show ¬ nI 6 = 0 from by decide), if_neg (show ¬ nI 6 = 1 from by decide), if_neg (show ¬ nI 6 = 2 from by decide), if_neg (show ¬ nI 6 = 3 from by decide), if_neg (show ¬ nI 6 = 4 from by decide), if_neg (show ¬ nI 6 = 5 from by decide), if_pos (show nI 6 = 6 from rfl), hC.W j hj]
        · rw [qM]
          refine (sg_X10_ofScene_17 (d := d + 69) s_E).trans ?_
          rw [if_neg (show ¬ (1 : Int32) = 0 from by decide), if_pos (show nI 6 = 6 from rfl)]
          refine (x_its (w := 8) s_E h7 (by decide)).trans ?_
          rw [hM.W j hj]
          exact sg_X10_ofScene_67 (d := d + 69) s_E
      · refine ⟨.inl (nI (bt (hp t) j)), oC_v (fun Q => ?_), oM_v (fun Q => ?_)⟩
        · rw [qC]
          refine (sg_X9_ofScene_32 (d := d + 69) s_E).trans ?_
          rw [if_pos (show nI 7 = 7 from rfl)]
          rw [sh31 (by omega), nI_bt hj128 h7]
        · rw [qM]
          refine (sg_X10_ofScene_17 (d := d + 69) s_E).trans ?_
          rw [if_neg (show ¬ (1 : Int32) = 0 from by decide), if_neg (show ¬ nI 7 = 6 from by decide), if_pos (show nI 7 = 7 from rfl)]
          refine (x_all (d := d + 65) s_E ok hM).trans ?_
          refine (sg_X10_ofScene_72 (d := d + 69) s_E).trans ?_
          rw [sh31 (by omega), nI_bt hj128 h7]
      · refine ⟨.inl (nI (sh t j)), oC_v (fun Q => ?_), oM_v (fun Q => ?_)⟩
        · rw [qC]
          refine (sg_X9_ofScene_32 (d := d + 69) s_E).trans ?_
          rw [if_neg (show ¬ nI 8 = 7 from by decide), if_pos (show nI 8 = 8 from rfl)]
          refine (own 8 _ Q).trans ?_
          unfold f_X5_own
          rw [if_neg (show ¬ nI 8 = 0 from by decide), if_neg (show ¬ nI 8 = 1 from by decide), if_neg (show ¬ nI 8 = 2 from by decide), if_neg (show ¬ nI 8 = 3 from by decide), if_neg (show ¬ nI 8 = 4 from by decide), if_neg (show ¬ nI 8 = 5 from by decide), if_neg (show ¬ nI 8 = 6 from by decide), sh_C ok hC hj]
        · rw [qM]
          refine (sg_X10_ofScene_17 (d := d + 69) s_E).trans ?_
          rw [if_neg (show ¬ (1 : Int32) = 0 from by decide), if_neg (show ¬ nI 8 = 6 from by decide), if_neg (show ¬ nI 8 = 7 from by decide), if_pos (show nI 8 = 8 from rfl)]
          refine (x_X10_shock (d := d + 67) s_E ⟨(its_at (w := 1) h7 (by decide)).2, ?_⟩ ⟨(its_at (w := 0) h7 (by decide)).2, ?_⟩).trans ?_
          · rw [show (1 : Int32) = nI 1 from rfl, (its_at h7 (by decide)).1]; omega
          · rw [show (0 : Int32) = nI 0 from rfl, (its_at h7 (by decide)).1]; omega
          rw [sh_M ok hM hj]
          exact sg_X10_ofScene_82 (d := d + 69) s_E
      · refine ⟨.inl ((if kd t (hp t) j then ll (t.A j) else -1)), oC_v (fun Q => ?_), oM_v (fun Q => ?_)⟩
        · rw [qC]
          refine (sg_X9_ofScene_32 (d := d + 69) s_E).trans ?_
          rw [if_neg (show ¬ nI 9 = 7 from by decide), if_neg (show ¬ nI 9 = 8 from by decide), if_pos (show nI 9 = 9 from rfl)]
          refine (x_X2_killedBy (d := d + 65) s_E ok hC hj hj128).trans ?_
          refine (sg_X9_ofScene_79 (d := d + 69) s_E).trans ?_
          refine (x_X9_leastOf (d := d + 67) s_E).trans ?_
          rw [le_ks ok hj]
          exact sg_X9_ofScene_82 (d := d + 69) s_E
        · rw [qM]
          refine (sg_X10_ofScene_17 (d := d + 69) s_E).trans ?_
          rw [if_neg (show ¬ (1 : Int32) = 0 from by decide), if_neg (show ¬ nI 9 = 6 from by decide), if_neg (show ¬ nI 9 = 7 from by decide), if_neg (show ¬ nI 9 = 8 from by decide), if_pos (show nI 9 = 9 from rfl)]
          refine (x_all (d := d + 65) s_E ok hM).trans ?_
          refine (sg_X10_ofScene_89 (d := d + 69) s_E).trans ?_
          refine (x_X10_kills (d := d + 67) s_E ok hM hj hj128).trans ?_
          exact sg_X10_ofScene_92 (d := d + 69) s_E
      · refine ⟨.inl ((if br t (hp t) j then 1 else 0)), oC_v (fun Q => ?_), oM_v (fun Q => ?_)⟩
        · rw [qC]
          refine (sg_X9_ofScene_32 (d := d + 69) s_E).trans ?_
          rw [if_neg (show ¬ nI 10 = 7 from by decide), if_neg (show ¬ nI 10 = 8 from by decide), if_neg (show ¬ nI 10 = 9 from by decide), if_pos (show nI 10 = 10 from rfl)]
          refine (x_X2_isBroken (d := d + 64) s_E ok hC hj hj128).trans ?_
          refine (sg_X9_ofScene_92 (d := d + 69) s_E).trans ?_
          refine (x_X9_truth (d := d + 68) s_E).trans ?_
          refine (sg_X9_ofScene_95 (d := d + 69) s_E).trans ?_
          split <;> rfl
        · rw [qM]
          refine (sg_X10_ofScene_17 (d := d + 69) s_E).trans ?_
          rw [if_neg (show ¬ (1 : Int32) = 0 from by decide), if_neg (show ¬ nI 10 = 6 from by decide), if_neg (show ¬ nI 10 = 7 from by decide), if_neg (show ¬ nI 10 = 8 from by decide), if_neg (show ¬ nI 10 = 9 from by decide), if_pos (show nI 10 = 10 from rfl)]
          refine (x_X10_isBroken (d := d + 64) s_E ok hM hj).trans ?_
          refine (sg_X10_ofScene_98 (d := d + 69) s_E).trans ?_
          by_cases q : br t (hp t) j = true
          · rw [if_pos q, if_neg (by decide)]
          · rw [if_neg q, if_pos rfl]
end RO
