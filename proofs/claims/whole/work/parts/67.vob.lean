section VB
variable {d : Nat} {E : pEv} {ro r r' : Nat → Nat → Int32} {Q : Option Value → pH → Prop} {s m o : Nat} {x : Int32}
theorem voO_l {n k : Nat} : (voO n k x).2.length ≤ 2 := by unfold voO; split <;> simp
theorem voC_l {n m k : Nat} : (voC n m k x).2.length ≤ 3 := by unfold voC; (repeat' split) <;> simp
theorem voP0_l {n o : Nat} : (voP0 n o x).2.length ≤ 3 := by
  have := @voO_l x n o
  show (voO n o x).2.length + 1 ≤ 3
  omega
theorem voP1_l {n m o : Nat} : (voP1 n m o x).2.length ≤ 7 := by
  have h1 := @voP0_l x n o
  have h2 := @voC_l 1 n m o
  show ((voP0 n o x).2 ++ (voC n m o 1).2).length + 1 ≤ 7
  rw [List.length_append]
  omega
theorem voP_l {n m o k : Nat} : (voP n m o k x).2.length ≤ 8 := by
  unfold voP
  split
  · have := @voP1_l x n m o; omega
  · split
    · have := @voP1_l (x + 1) n m o
      show (voP1 n m o (x + 1)).2.length + 1 ≤ 8
      omega
    · have := @voP0_l x n o; omega
theorem voT0_l {n m o : Nat} : (voT0 n m o x).2.length ≤ 12 := by
  have h1 := @voP_l x n m o o
  have h2 := @voC_l x n m o
  show ((voP n m o o x).2 ++ (voC n m o x).2).length + 1 ≤ 12
  rw [List.length_append]
  omega
theorem vo_l {n m o a k : Nat} : (vo n m o a k x).2.length ≤ 21 := by
  unfold vo voT
  have h1 := @voO_l x n k
  have h2 := @voP_l x n m o k
  have h3 := @voC_l x n m k
  have h4 := @voT0_l x n m o
  have h5 := @voO_l 2 n o
  have h6 := @voP_l x n m o o
  (repeat' split)
  · omega
  · omega
  · omega
  · show ((voT0 n m o x).2 ++ (voO n o 2).2).length + 1 ≤ 21
    rw [List.length_append]; omega
  · show ((voP n m o o x).2 ++ (voT0 n m o x).2).length + 1 ≤ 21
    rw [List.length_append]; omega
  · omega

/-- opens and closes -/
theorem sp_O (s_E : oE E) (hs : s < 7) {k : Nat} (hk : k < 7) : spk E s m o 4 0 k x (voO s k x) := by
  have up : ∀ {D D' a k x y}, spk E s m o D a k x y → D ≤ D' → spk E s m o D' a k x y := fun {D D' a k x y} h hD d r c dep h1 h2 h3 h4 h5 Q => by
    have := h (d + (D' - D)) r c dep (by omega) (by omega) h3 h4 h5 Q
    rw [show d + (D' - D) + 5 + D = d + 5 + D' by omega] at this
    exact this
  have l0 : ∀ k, k < 7 → ¬ (k = 2 ∨ k = 5) → spk E s m o 1 0 k x (x + nI s, [10]) := by
    intro k hk hq
    have hb : bdT 0 k = 10 := by
      have : ∀ k, k < 7 → ¬ (k = 2 ∨ k = 5) → bdT 0 k = 10 := by decide
      exact this k hk hq
    have := x_spk (D := 0) (m := m) (o := o) (x := x) (v := x + nI s) (l := []) s_E hs (show 0 < 4 by decide) hk (fun d r c dep _ _ hsc _ _ Q => by
      rw [hb]
      refine (en_X7_run (d := d + 4) s_E (oS11 hs)).trans ?_
      rw [if_pos (show nI 10 = 10 from rfl), hsc.1]
      rfl)
    rw [hb] at this
    exact this
  unfold voO
  by_cases q : k = 2 ∨ k = 5
  · rw [if_pos q]
    have hb : bdT 0 k = 30 ∧ aK (owT 0 k) = nI 0 := by
      have : ∀ k, k < 7 → (k = 2 ∨ k = 5) → bdT 0 k = 30 ∧ aK (owT 0 k) = nI 0 := by decide
      exact this k hk q
    have := x_spk (D := 3) (m := m) (o := o) (x := x) (v := (x + nI s) * 3) (l := [10]) s_E hs (show 0 < 4 by decide) hk (fun d r c dep h1 h2 hsc h85 hl Q => by
      rw [hb.1, hb.2]
      refine (en_X7_run (d := d + 5 + 2) s_E (oS11 hs)).trans ?_
      rw [if_neg (show ¬ nI 30 = 10 from by decide), if_neg (show ¬ nI 30 = 11 from by decide), if_neg (show ¬ nI 30 = 12 from by decide), if_neg (show ¬ nI 30 = 13 from by decide), if_neg (show ¬ nI 30 = 20 from by decide), if_pos (show nI 30 = 30 from rfl)]
      refine (up (l0 0 (by decide) (by decide)) (show 1 ≤ 2 by decide) d r c dep (by omega) (by omega) hsc h85 hl _).trans ?_
      exact sg_X7_run_188 (d := d + 5 + 2) s_E (oS11 hs))
    rw [hb.1] at this
    exact this
  · rw [if_neg q]
    exact up (l0 k hk q) (by decide)
theorem sp_up {D D' a k : Nat} {y : Int32 × List Nat} (h : spk E s m o D a k x y) (hD : D ≤ D') : spk E s m o D' a k x y := fun d r c dep h1 h2 h3 h4 h5 Q => by
    have := h (d + (D' - D)) r c dep (by omega) (by omega) h3 h4 h5 Q
    rw [show d + (D' - D) + 5 + D = d + 5 + D' by omega] at this
    exact this

theorem sp_C (s_E : oE E) (hs : s < 7) {k : Nat} (hk : k < 7) : spk E s m o 5 2 k x (voC s m k x) := by
  have l0 : ∀ k, k < 7 → ¬ k = 3 → ¬ k = 6 → spk E s m o 1 2 k x (x - nI m, [12]) := by
    intro k hk hq hq2
    have hb : bdT 2 k = 12 := by
      have : ∀ k, k < 7 → ¬ k = 3 → ¬ k = 6 → bdT 2 k = 12 := by decide
      exact this k hk hq hq2
    have := x_spk (D := 0) (m := m) (o := o) (x := x) (v := x - nI m) (l := []) s_E hs (show 2 < 4 by decide) hk (fun d r c dep _ _ hsc _ _ Q => by
      rw [hb]
      refine (en_X7_run (d := d + 4) s_E (oS11 hs)).trans ?_
      rw [if_neg (show ¬ nI 12 = 10 from by decide), if_neg (show ¬ nI 12 = 11 from by decide), if_pos (show nI 12 = 12 from rfl), hsc.2.2]
      rfl)
    rw [hb] at this
    exact this
  have l3 : spk E s m o 3 2 3 x (-(x - nI m), [40, 12]) := by
    refine x_spk (D := 2) (m := m) (o := o) (x := x) (v := -(x - nI m)) (l := [12]) s_E hs (show 2 < 4 by decide) (show 3 < 7 by decide) (fun d r c dep h1 h2 hsc h85 hl Q => ?_)
    show wX (d + 5 + 2) 90 [.ref 84, .int (nI 40), .ref (13 + s), .int (nI 0), .int x, .int (nI dep)] (mkH E r) Q = _
    refine (en_X7_run (d := d + 5 + 1) s_E (oS11 hs)).trans ?_
    rw [if_neg (show ¬ nI 40 = 10 from by decide), if_neg (show ¬ nI 40 = 11 from by decide), if_neg (show ¬ nI 40 = 12 from by decide), if_neg (show ¬ nI 40 = 13 from by decide), if_neg (show ¬ nI 40 = 20 from by decide), if_neg (show ¬ nI 40 = 30 from by decide), if_pos (show nI 40 = 40 from rfl)]
    refine (l0 0 (by decide) (by decide) (by decide) d r c dep (by omega) (by omega) hsc h85 hl _).trans ?_
    exact sg_X7_run_202 (d := d + 5 + 1) s_E (oS11 hs)
  unfold voC
  by_cases q : k = 3
  · rw [if_pos q, q]
    exact sp_up l3 (by decide)
  · rw [if_neg q]
    by_cases q2 : k = 6
    · rw [if_pos q2, q2]
      refine x_spk (D := 4) (m := m) (o := o) (x := x) (v := (-(x - nI m)) ^^^ nI s) (l := [40, 12]) s_E hs (show 2 < 4 by decide) (show 6 < 7 by decide) (fun d r c dep h1 h2 hsc h85 hl Q => ?_)
      show wX (d + 5 + 4) 90 [.ref 84, .int (nI 70), .ref (13 + s), .int (nI 3), .int x, .int (nI dep)] (mkH E r) Q = _
      refine (en_X7_run (d := d + 5 + 3) s_E (oS11 hs)).trans ?_
      rw [if_neg (show ¬ nI 70 = 10 from by decide), if_neg (show ¬ nI 70 = 11 from by decide), if_neg (show ¬ nI 70 = 12 from by decide), if_neg (show ¬ nI 70 = 13 from by decide), if_neg (show ¬ nI 70 = 20 from by decide), if_neg (show ¬ nI 70 = 30 from by decide), if_neg (show ¬ nI 70 = 40 from by decide), if_neg (show ¬ nI 70 = 50 from by decide), if_neg (show ¬ nI 70 = 60 from by decide), if_pos (show nI 70 = 70 from rfl)]
      refine (l3 d r c dep (by omega) (by omega) hsc h85 hl _).trans ?_
      refine (sg_X7_run_253 (d := d + 5 + 3) s_E (oS11 hs)).trans ?_
      rw [tra_s _ _ _ _ _ (by unfold trP; omega), hsc.1]
    · rw [if_neg q2]
      exact sp_up (l0 k hk q q2) (by decide)

theorem sp_P0 (s_E : oE E) (hs : s < 7) (ho : o < 7) {k : Nat} (hk : k < 7) (hq : ¬ k = 1) (hq4 : ¬ k = 4) : spk E s m o 6 1 k x (voP0 s o x) := by
  have hb : bdT 1 k = 11 := by
    have : ∀ k, k < 7 → ¬ k = 1 → ¬ k = 4 → bdT 1 k = 11 := by decide
    exact this k hk hq hq4
  have := x_spk (D := 5) (m := m) (o := o) (x := x) (v := (voO s o x).1 * 2) (l := (voO s o x).2) s_E hs (show 1 < 4 by decide) hk (fun d r c dep h1 h2 hsc h85 hl Q => by
    rw [hb]
    refine (en_X7_run (d := d + 5 + 4) s_E (oS11 hs)).trans ?_
    rw [if_neg (show ¬ nI 11 = 10 from by decide), if_pos (show nI 11 = 11 from rfl), hsc.2.1]
    refine (sp_O s_E hs ho d r c dep (by omega) (by omega) hsc h85 hl _).trans ?_
    exact sg_X7_run_116 (d := d + 5 + 4) s_E (oS11 hs))
  rw [hb] at this
  exact this
theorem sp_P1 (s_E : oE E) (hs : s < 7) (ho : o < 7) : spk E s m o 8 1 1 x (voP1 s m o x) := by
  refine x_spk (D := 7) (m := m) (o := o) (x := x) (v := (voP1 s m o x).1) (l := (voP0 s o x).2 ++ (voC s m o 1).2) s_E hs (show 1 < 4 by decide) (show 1 < 7 by decide) (fun d r c dep h1 h2 hsc h85 hl Q => ?_)
  rw [List.length_append] at hl
  show wX (d + 5 + 7) 90 [.ref 84, .int (nI 20), .ref (13 + s), .int (nI 0), .int x, .int (nI dep)] (mkH E r) Q = _
  refine (en_X7_run (d := d + 5 + 6) s_E (oS11 hs)).trans ?_
  rw [if_neg (show ¬ nI 20 = 10 from by decide), if_neg (show ¬ nI 20 = 11 from by decide), if_neg (show ¬ nI 20 = 12 from by decide), if_neg (show ¬ nI 20 = 13 from by decide), if_pos (show nI 20 = 20 from rfl), hsc.2.1]
  refine (sp_P0 s_E hs ho (show 0 < 7 by decide) (by decide) (by decide) d r c dep (by omega) (by omega) hsc h85 (by omega) _).trans ?_
  refine (sg_X7_run_164 (d := d + 5 + 6) s_E (oS11 hs)).trans ?_
  refine (sp_up (sp_C (x := 1) s_E hs ho) (show 5 ≤ 6 by decide) d (tra r c (voP0 s o x).2) (c + (voP0 s o x).2.length) dep (by omega) (by omega) (scV_s hsc hs (tra_s _ _ _)) (tra_n _ _ _ h85) (by omega) _).trans ?_
  refine (sg_X7_run_175 (d := d + 5 + 6) s_E (oS11 hs)).trans ?_
  rw [tra_app]
  rfl
theorem sp_P (s_E : oE E) (hs : s < 7) (ho : o < 7) {k : Nat} (hk : k < 7) : spk E s m o 10 1 k x (voP s m o k x) := by
  unfold voP
  by_cases q : k = 1
  · rw [if_pos q, q]
    exact sp_up (sp_P1 s_E hs ho) (by decide)
  · rw [if_neg q]
    by_cases q4 : k = 4
    · rw [if_pos q4, q4]
      refine x_spk (D := 9) (m := m) (o := o) (x := x) (v := (voP1 s m o (x + 1)).1) (l := (voP1 s m o (x + 1)).2) s_E hs (show 1 < 4 by decide) (show 4 < 7 by decide) (fun d r c dep h1 h2 hsc h85 hl Q => ?_)
      show wX (d + 5 + 9) 90 [.ref 84, .int (nI 50), .ref (13 + s), .int (nI 1), .int x, .int (nI dep)] (mkH E r) Q = _
      refine (en_X7_run (d := d + 5 + 8) s_E (oS11 hs)).trans ?_
      rw [if_neg (show ¬ nI 50 = 10 from by decide), if_neg (show ¬ nI 50 = 11 from by decide), if_neg (show ¬ nI 50 = 12 from by decide), if_neg (show ¬ nI 50 = 13 from by decide), if_neg (show ¬ nI 50 = 20 from by decide), if_neg (show ¬ nI 50 = 30 from by decide), if_neg (show ¬ nI 50 = 40 from by decide), if_pos (show nI 50 = 50 from rfl)]
      refine (sp_P1 s_E hs ho d r c dep (by omega) (by omega) hsc h85 hl _).trans ?_
      exact sg_X7_run_217 (d := d + 5 + 8) s_E (oS11 hs)
    · rw [if_neg q4]
      exact sp_up (sp_P0 s_E hs ho hk q q4) (by decide)

theorem sp_T0 (s_E : oE E) (hs : s < 7) (ho : o < 7) {k : Nat} (hk : k < 7) (hq : ¬ k = 5) (hq6 : ¬ k = 6) : spk E s m o 12 3 k x (voT0 s m o x) := by
  have hb : bdT 3 k = 13 := by
    have : ∀ k, k < 7 → ¬ k = 5 → ¬ k = 6 → bdT 3 k = 13 := by decide
    exact this k hk hq hq6
  have := x_spk (D := 11) (m := m) (o := o) (x := x) (v := (voT0 s m o x).1) (l := (voP s m o o x).2 ++ (voC s m o x).2) s_E hs (show 3 < 4 by decide) hk (fun d r c dep h1 h2 hsc h85 hl Q => by
    rw [List.length_append] at hl
    rw [hb]
    refine (en_X7_run (d := d + 5 + 10) s_E (oS11 hs)).trans ?_
    rw [if_neg (show ¬ nI 13 = 10 from by decide), if_neg (show ¬ nI 13 = 11 from by decide), if_neg (show ¬ nI 13 = 12 from by decide), if_pos (show nI 13 = 13 from rfl), hsc.2.1]
    refine (sp_P s_E hs ho ho d r c dep (by omega) (by omega) hsc h85 (by omega) _).trans ?_
    refine (sg_X7_run_139 (d := d + 5 + 10) s_E (oS11 hs)).trans ?_
    refine (sp_up (sp_C s_E hs ho) (show 5 ≤ 10 by decide) d (tra r c (voP s m o o x).2) (c + (voP s m o o x).2.length) dep (by omega) (by omega) (scV_s hsc hs (tra_s _ _ _)) (tra_n _ _ _ h85) (by omega) _).trans ?_
    refine (sg_X7_run_151 (d := d + 5 + 10) s_E (oS11 hs)).trans ?_
    rw [tra_app]
    rfl)
  rw [hb] at this
  exact this
theorem sp_T (s_E : oE E) (hs : s < 7) (ho : o < 7) {k : Nat} (hk : k < 7) : spk E s m o 14 3 k x (voT s m o k x) := by
  unfold voT
  by_cases q : k = 5
  · rw [if_pos q, q]
    refine x_spk (D := 13) (m := m) (o := o) (x := x) (v := (voT0 s m o x).1 - (voO s o 2).1) (l := (voT0 s m o x).2 ++ (voO s o 2).2) s_E hs (show 3 < 4 by decide) (show 5 < 7 by decide) (fun d r c dep h1 h2 hsc h85 hl Q => ?_)
    rw [List.length_append] at hl
    show wX (d + 5 + 13) 90 [.ref 84, .int (nI 60), .ref (13 + s), .int (nI 2), .int x, .int (nI dep)] (mkH E r) Q = _
    refine (en_X7_run (d := d + 5 + 12) s_E (oS11 hs)).trans ?_
    rw [if_neg (show ¬ nI 60 = 10 from by decide), if_neg (show ¬ nI 60 = 11 from by decide), if_neg (show ¬ nI 60 = 12 from by decide), if_neg (show ¬ nI 60 = 13 from by decide), if_neg (show ¬ nI 60 = 20 from by decide), if_neg (show ¬ nI 60 = 30 from by decide), if_neg (show ¬ nI 60 = 40 from by decide), if_neg (show ¬ nI 60 = 50 from by decide), if_pos (show nI 60 = 60 from rfl), hsc.2.1]
    refine (sp_T0 s_E hs ho (show 2 < 7 by decide) (by decide) (by decide) d r c dep (by omega) (by omega) hsc h85 (by omega) _).trans ?_
    refine (sg_X7_run_229 (d := d + 5 + 12) s_E (oS11 hs)).trans ?_
    refine (sp_up (sp_O (x := 2) s_E hs ho) (show 4 ≤ 12 by decide) d (tra r c (voT0 s m o x).2) (c + (voT0 s m o x).2.length) dep (by omega) (by omega) (scV_s hsc hs (tra_s _ _ _)) (tra_n _ _ _ h85) (by omega) _).trans ?_
    refine (sg_X7_run_240 (d := d + 5 + 12) s_E (oS11 hs)).trans ?_
    rw [tra_app]
  · rw [if_neg q]
    by_cases q6 : k = 6
    · rw [if_pos q6, q6]
      refine x_spk (D := 13) (m := m) (o := o) (x := x) (v := (voP s m o o x).1 - (voT0 s m o x).1) (l := (voP s m o o x).2 ++ (voT0 s m o x).2) s_E hs (show 3 < 4 by decide) (show 6 < 7 by decide) (fun d r c dep h1 h2 hsc h85 hl Q => ?_)
      rw [List.length_append] at hl
      show wX (d + 5 + 13) 90 [.ref 84, .int (nI 71), .ref (13 + s), .int (nI 3), .int x, .int (nI dep)] (mkH E r) Q = _
      refine (en_X7_run (d := d + 5 + 12) s_E (oS11 hs)).trans ?_
      rw [if_neg (show ¬ nI 71 = 10 from by decide), if_neg (show ¬ nI 71 = 11 from by decide), if_neg (show ¬ nI 71 = 12 from by decide), if_neg (show ¬ nI 71 = 13 from by decide), if_neg (show ¬ nI 71 = 20 from by decide), if_neg (show ¬ nI 71 = 30 from by decide), if_neg (show ¬ nI 71 = 40 from by decide), if_neg (show ¬ nI 71 = 50 from by decide), if_neg (show ¬ nI 71 = 60 from by decide), if_neg (show ¬ nI 71 = 70 from by decide), hsc.2.1]
      refine (sp_up (sp_P s_E hs ho ho) (show 10 ≤ 12 by decide) d r c dep (by omega) (by omega) hsc h85 (by omega) _).trans ?_
      refine (sg_X7_run_271 (d := d + 5 + 12) s_E (oS11 hs)).trans ?_
      refine (sp_T0 s_E hs ho (show 3 < 7 by decide) (by decide) (by decide) d (tra r c (voP s m o o x).2) (c + (voP s m o o x).2.length) dep (by omega) (by omega) (scV_s hsc hs (tra_s _ _ _)) (tra_n _ _ _ h85) (by omega) _).trans ?_
      refine (sg_X7_run_282 (d := d + 5 + 12) s_E (oS11 hs)).trans ?_
      rw [tra_app]
    · rw [if_neg q6]
      exact sp_up (sp_T0 s_E hs ho hk q q6) (by decide)
theorem sp_all (s_E : oE E) (hs : s < 7) (ho : o < 7) {a k : Nat} (ha : a < 4) (hk : k < 7) : spk E s m o 14 a k x (vo s m o a k x) := by
  unfold vo
  by_cases h0 : a = 0
  · rw [if_pos h0, h0]; exact sp_up (sp_O s_E hs hk) (by decide)
  · rw [if_neg h0]
    by_cases h1 : a = 1
    · rw [if_pos h1, h1]; exact sp_up (sp_P s_E hs ho hk) (by decide)
    · rw [if_neg h1]
      by_cases h2 : a = 2
      · rw [if_pos h2, h2]; exact sp_up (sp_C s_E hs hk) (by decide)
      · rw [if_neg h2, show a = 3 by omega]; exact sp_T s_E hs ho hk
end VB
