section RQ
variable {d : Nat} {E : pEv} {ro r1 r r' : Nat → Nat → Int32} {t : Th} {X : Tx} {Q : Option Value → pH → Prop}
theorem wi_m (x : Int32) : f_X9_within x (-1) 6 = 0 ∨ (f_X9_within x (-1) 6 = 1 ∧ (x = -1 ∨ ∃ j, j ≤ 6 ∧ x = nI j)) := by
  unfold f_X9_within
  by_cases h1 : x < -1
  · exact Or.inl (by rw [if_pos h1])
  · by_cases h2 : 6 < x
    · exact Or.inl (by rw [if_neg h1, if_pos h2])
    · refine Or.inr ⟨by rw [if_neg h1, if_neg h2], ?_⟩
      by_cases h3 : x < 0
      · left
        refine Int32.toInt_inj.mp ?_
        have e1 := mt Int32.lt_iff_toInt_lt.mpr h1
        have e3 := Int32.lt_iff_toInt_lt.mp h3
        rw [show (-1 : Int32).toInt = -1 from by decide] at e1 ⊢
        rw [show (0 : Int32).toInt = 0 from by decide] at e3
        omega
      · obtain ⟨j, hj, rfl⟩ := nI_of h3
        refine Or.inr ⟨j, ?_, rfl⟩
        exact (nI_leI hj (by decide)).mp (Int32.not_lt.mp h2)
/-- best of all orders, as the model tells it -/
theorem x_bestTold (s_E : oE E) (ok : tOK t) (hM : tM t r1) (xo : xOK X) (hXM : xM X r1) {b : Nat} (hb : b < 2) {val : List Nat → Nat} {v : Nat} {L : List Nat} (hvb : ∀ l, l ∈ pmA t.n t.n 0 → val l < 10000) (hbest : fbs val (pmA t.n t.n 0) none = some (v, L))
    (hv : ∀ l r, tM t r → guT t X r → rW t (gl l) r → ∃ r', sE (fun a _ => a = 108) r r' ∧ ∀ Q, wX (d + 53) (191 + b) [.ref 101] (mkH E r) Q = Q (some (.int (nI (val l)))) (mkH E r')) {x : Int32} :
    (f_X9_within x (-1) 6 = 0 → ∀ Q, wX (d + 55) 207 [.ref 101, .int (nI b), .int x] (mkH E r1) Q = Q (some (.int (er 1))) (mkH E (eM r1 1))) ∧
    (f_X9_within x (-1) 6 = 1 → ¬ x < nI t.n → ∀ Q, wX (d + 55) 207 [.ref 101, .int (nI b), .int x] (mkH E r1) Q = Q (some (.int (er 2))) (mkH E (eM r1 2))) ∧
    (f_X9_within x (-1) 6 = 1 → x < nI t.n → ∃ r', sE SM r1 r' ∧ (x = -1 → ∀ Q, wX (d + 55) 207 [.ref 101, .int (nI b), .int x] (mkH E r1) Q = Q (some (.int (nI v))) (mkH E r')) ∧ (∀ j, j < t.n → x = nI j → ∀ Q, wX (d + 55) 207 [.ref 101, .int (nI b), .int x] (mkH E r1) Q = Q (some (.int (nI (gl L j)))) (mkH E r'))) := by
  have hn := ok.n
  have gM : f_X10_in x.toInt64 (-1) 6 = f_X9_within x (-1) 6 := in_l (a := -1) (b := 6)
  have pM : ∀ Q, wX (d + 55) 207 [.ref 101, .int (nI b), .int x] (mkH E r1) Q = _ := fun Q => (en_X10_bestTold (d := d + 54) s_E).trans ((x_X10_in (d := d + 53) s_E).trans (sg_X10_bestTold_11 (d := d + 54) s_E))
  refine ⟨fun h Q => ?_, fun h h2 Q => ?_, fun h h2 => ?_⟩
  · rw [pM, gM, h, if_pos rfl]
    refine (x_fin (d := d + 53) (k := 1) s_E (by decide)).trans ?_
    exact sg_X10_bestTold_19 (d := d + 54) s_E
  · rw [pM, gM, h, if_neg (by decide), hM.n, if_neg h2]
    refine (x_fin (d := d + 53) (k := 2) s_E (by decide)).trans ?_
    exact sg_X10_bestTold_35 (d := d + 54) s_E
  · obtain ⟨r', s1, a1, c1, e1⟩ := x_goThrough (d := d) (X := X) (G := 0) s_E ok hM xo hXM hb (by decide) hvb hv
    rw [hbest] at a1
    obtain ⟨a1, a2, a3⟩ := a1
    refine ⟨r', s1, fun hx Q => ?_, fun j hj hx Q => ?_⟩
    · rw [pM, gM, h, if_neg (by decide), hM.n, if_pos h2]
      refine (e1 _).trans ?_
      refine (sg_X10_bestTold_42 (d := d + 54) s_E (fun q => absurd (by rw [hx]; decide) q)).trans ?_
      rw [if_pos (by rw [hx]; decide), a1]
    · rw [pM, gM, h, if_neg (by decide), hM.n, if_pos h2]
      refine (e1 _).trans ?_
      rw [hx]
      refine (sg_X10_bestTold_42 (d := d + 54) s_E (fun _ => ix_n (show j < 7 by omega) (by decide))).trans ?_
      rw [if_neg (nI_pos (by omega)), nI_clamp (by omega), a3 j hj]
theorem lt_m1 (ok : tOK t) : (-1 : Int32) < nI t.n := by
  have : ∀ n, n < 8 → (-1 : Int32) < nI n := by decide
  exact this _ (by have := ok.n; omega)
theorem ro_least (s_E : oE E) (ok : tOK t) (xo : xOK X) {x : Int32} : RO d E t X 113 [.ref 10, .int x] 208 [.ref 101, .int x] := by
  intro ro r1 hC hX hz hM hXM
  have hn := ok.n
  obtain ⟨m1, m2, m3⟩ := x_bestTold (d := d + 14) (b := 0) (x := x) s_E ok hM xo hXM (by decide) (fun l hl => gs_b (X := X) ok hl) (least_main ok) (fun l r hM hT hr => ⟨r, sE_rf, fun Q => x_guessedOfRow (d := d + 64) s_E ok hM hT hr⟩)
  have pC : ∀ Q, wX (d + 70) 113 [.ref 10, .int x] (mkH E ro) Q = _ := fun Q => (en_X9_least (d := d + 69) s_E).trans ((x_X9_within (d := d + 68) s_E).trans (sg_X9_least_7 (d := d + 69) s_E))
  have pM : ∀ Q, wX (d + 70) 208 [.ref 101, .int x] (mkH E r1) Q = wX (d + 69) 207 [.ref 101, .int (nI 0), .int x] (mkH E r1) (fun v h' => wG (d + 69) 208 (6, [.ref 101, .int x], pv v [], h') Q) := fun Q => en_X10_least (d := d + 69) s_E
  rcases wi_m x with h | ⟨h, hx⟩
  · refine ⟨.inr 1, oC_e (by decide) (fun Q => ?_), oM_e (by decide) (fun Q => ?_)⟩
    · rw [pC, h, if_pos rfl, er1]
      refine (x_wr (d := d + 67) s_E (by decide)).trans ?_
      exact sg_X9_least_16 (d := d + 69) s_E
    · rw [pM]
      exact (m1 h _).trans (sg_X10_least_6 (d := d + 69) s_E)
  · by_cases h2 : x < nI t.n
    · obtain ⟨r2, s2, g1, g2⟩ := m3 h h2
      obtain ⟨r', s1, t1, j1, e1⟩ := x_findLeast (d := d + 62) s_E ok hC xo hX hz
      have qC : ∀ Q, wX (d + 70) 113 [.ref 10, .int x] (mkH E ro) Q = wG (d + 69) 113 (42, [.ref 10, .int x, .retAddr 0], [.int (nI (vL t X 0))], mkH E r') Q := fun Q => by
        rw [pC, h, if_neg (by decide), hC.n, if_pos h2]
        exact e1 _
      rcases hx with hx | ⟨j, hj, hx⟩
      · refine ⟨.inl (nI (vL t X 0)), ⟨r', s1, fun Q => ?_⟩, ⟨r2, s2, fun Q => ?_⟩⟩
        · rw [qC]
          refine (sg_X9_least_42 (d := d + 69) s_E).trans ?_
          rw [if_pos (by rw [hx]; decide)]
        · rw [pM]
          exact (g1 hx _).trans (sg_X10_least_6 (d := d + 69) s_E)
      · have hjn : j < t.n := by rw [hx] at h2; exact (nI_ltI (by omega) (by omega)).mp h2
        refine ⟨.inl (nI (gl (grd nxg (s0L t X) t.n 0) j)), ⟨r', s1, fun Q => ?_⟩, ⟨r2, s2, fun Q => ?_⟩⟩
        · rw [qC]
          refine (sg_X9_least_42 (d := d + 69) s_E).trans ?_
          rw [hx, if_neg (nI_pos (by omega))]
          refine (x_X4_at (d := d + 68) (c_h0 := 7) s_E (oR rfl)).trans ?_
          rw [at_in (s := t.n) ⟨t1, hn, by decide⟩ hjn, j1 j hjn]
          exact sg_X9_least_62 (d := d + 69) s_E
        · rw [pM]
          exact (g2 j hjn hx _).trans (sg_X10_least_6 (d := d + 69) s_E)
    · refine ⟨.inr 2, oC_e (by decide) (fun Q => ?_), oM_e (by decide) (fun Q => ?_)⟩
      · rw [pC, h, if_neg (by decide), hC.n, if_neg h2, er2]
        refine (x_wr (d := d + 67) s_E (by decide)).trans ?_
        exact sg_X9_least_34 (d := d + 69) s_E
      · rw [pM]
        exact (m2 h h2 _).trans (sg_X10_least_6 (d := d + 69) s_E)
theorem ro_fewest (s_E : oE E) (ok : tOK t) (xo : xOK X) {x : Int32} : RO d E t X 114 [.ref 10, .int x] 209 [.ref 101, .int x] := by
  intro ro r1 hC hX hz hM hXM
  have hn := ok.n
  obtain ⟨m1, m2, m3⟩ := x_bestTold (d := d + 14) (b := 1) (x := x) s_E ok hM xo hXM (by decide) (fun l hl => hs_b ok hl) (fewest_main ok) (fun l r hM hT hr => ⟨fR r 108 4 (hsR t (gl l)).2, fun a k h => by rw [fR_o (show a ≠ 108 by omega)], fun Q => x_X10_handsOfRow (d := d + 65) s_E ok hM hr⟩)
  have pC : ∀ Q, wX (d + 70) 114 [.ref 10, .int x] (mkH E ro) Q = _ := fun Q => (en_X9_fewest (d := d + 69) s_E).trans ((x_X9_within (d := d + 68) s_E).trans (sg_X9_fewest_7 (d := d + 69) s_E))
  have pM : ∀ Q, wX (d + 70) 209 [.ref 101, .int x] (mkH E r1) Q = wX (d + 69) 207 [.ref 101, .int (nI 1), .int x] (mkH E r1) (fun v h' => wG (d + 69) 209 (6, [.ref 101, .int x], pv v [], h') Q) := fun Q => en_X10_fewest (d := d + 69) s_E
  rcases wi_m x with h | ⟨h, hx⟩
  · refine ⟨.inr 1, oC_e (by decide) (fun Q => ?_), oM_e (by decide) (fun Q => ?_)⟩
    · rw [pC, h, if_pos rfl, er1]
      refine (x_wr (d := d + 67) s_E (by decide)).trans ?_
      exact sg_X9_fewest_16 (d := d + 69) s_E
    · rw [pM]
      exact (m1 h _).trans (sg_X10_fewest_6 (d := d + 69) s_E)
  · by_cases h2 : x < nI t.n
    · obtain ⟨r2, s2, g1, g2⟩ := m3 h h2
      obtain ⟨r', s1, t1, j1, e1⟩ := x_findFewest (d := d + 62) s_E ok hC hz
      have qC : ∀ Q, wX (d + 70) 114 [.ref 10, .int x] (mkH E ro) Q = wG (d + 69) 114 (42, [.ref 10, .int x, .retAddr 0], [.int (nI (vH t (0, fun _ => 9)))], mkH E r') Q := fun Q => by
        rw [pC, h, if_neg (by decide), hC.n, if_pos h2]
        exact e1 _
      rcases hx with hx | ⟨j, hj, hx⟩
      · refine ⟨.inl (nI (vH t (0, fun _ => 9))), ⟨r', s1, fun Q => ?_⟩, ⟨r2, s2, fun Q => ?_⟩⟩
        · rw [qC]
          refine (sg_X9_fewest_42 (d := d + 69) s_E).trans ?_
          rw [if_pos (by rw [hx]; decide)]
        · rw [pM]
          exact (g1 hx _).trans (sg_X10_fewest_6 (d := d + 69) s_E)
      · have hjn : j < t.n := by rw [hx] at h2; exact (nI_ltI (by omega) (by omega)).mp h2
        refine ⟨.inl (nI (gl (grd (nxh t) (s0H t) t.n (0, fun _ => 9)) j)), ⟨r', s1, fun Q => ?_⟩, ⟨r2, s2, fun Q => ?_⟩⟩
        · rw [qC]
          refine (sg_X9_fewest_42 (d := d + 69) s_E).trans ?_
          rw [hx, if_neg (nI_pos (by omega))]
          refine (x_X4_at (d := d + 68) (c_h0 := 7) s_E (oR rfl)).trans ?_
          rw [at_in (s := t.n) ⟨t1, hn, by decide⟩ hjn, j1 j hjn]
          exact sg_X9_fewest_62 (d := d + 69) s_E
        · rw [pM]
          exact (g2 j hjn hx _).trans (sg_X10_fewest_6 (d := d + 69) s_E)
    · refine ⟨.inr 2, oC_e (by decide) (fun Q => ?_), oM_e (by decide) (fun Q => ?_)⟩
      · rw [pC, h, if_neg (by decide), hC.n, if_neg h2, er2]
        refine (x_wr (d := d + 67) s_E (by decide)).trans ?_
        exact sg_X9_fewest_34 (d := d + 69) s_E
      · rw [pM]
        exact (m2 h h2 _).trans (sg_X10_fewest_6 (d := d + 69) s_E)
theorem ro_orders (s_E : oE E) (ok : tOK t) (xo : xOK X) {x : Int32} : RO d E t X 115 [.ref 10, .int x] 210 [.ref 101, .int x] := by
  intro ro r1 hC hX hz hM hXM
  have hn := ok.n
  have pC : ∀ Q, wX (d + 70) 115 [.ref 10, .int x] (mkH E ro) Q = _ := fun Q => (en_X9_orders (d := d + 69) s_E).trans ((x_X9_within (d := d + 68) s_E).trans (sg_X9_orders_8 (d := d + 69) s_E))
  have pM : ∀ Q, wX (d + 70) 210 [.ref 101, .int x] (mkH E r1) Q = _ := fun Q => (en_X10_orders (d := d + 69) s_E).trans ((x_X10_in (d := d + 68) s_E).trans (sg_X10_orders_9 (d := d + 69) s_E))
  have gM : f_X10_in x.toInt64 0 9999 = f_X9_within x 0 9999 := in_l (a := 0) (b := 9999)
  rcases wi_v (x := x) (a := 0) (m := 9999) (by decide) (by decide) with h | ⟨G, _, hG, rfl, h⟩
  · have h : f_X9_within x 0 9999 = 0 := h
    refine ⟨.inr 1, oC_e (by decide) (fun Q => ?_), oM_e (by decide) (fun Q => ?_)⟩
    · rw [pC, h, if_pos rfl, er1]
      refine (x_wr (d := d + 67) s_E (by decide)).trans ?_
      exact sg_X9_orders_17 (d := d + 69) s_E
    · rw [pM, gM, h, if_pos rfl]
      refine (x_fin (d := d + 68) (k := 1) s_E (by decide)).trans ?_
      exact sg_X10_orders_17 (d := d + 69) s_E
  · have h : f_X9_within (nI G) 0 9999 = 1 := h
    obtain ⟨r', s1, e1⟩ := x_howMany (d := d + 56) s_E ok hC xo hX hz (show G < 2 ^ 30 by omega)
    obtain ⟨r2, s2, a2, c2, e2⟩ := x_goThrough (d := d + 15) (X := X) (b := 0) (G := G) (r := r1) s_E ok hM xo hXM (by decide) (by omega) (fun l hl => gs_b (X := X) ok hl) (fun l r hM hT hr => ⟨r, sE_rf, fun Q => x_guessedOfRow (d := d + 65) s_E ok hM hT hr⟩)
    refine ⟨.inl (nI (ctl (fun l => gs t X (gl l)) G (pmA t.n t.n 0))), ⟨r', s1, fun Q => ?_⟩, ⟨r2, s2, fun Q => ?_⟩⟩
    · rw [pC, h, if_neg (by decide)]
      refine (e1 _).trans ?_
      exact sg_X9_orders_26 (d := d + 69) s_E
    · rw [pM, gM, h, if_neg (by decide)]
      refine (e2 _).trans ?_
      refine (sg_X10_orders_24 (d := d + 69) s_E).trans ?_
      rw [c2]
end RQ
