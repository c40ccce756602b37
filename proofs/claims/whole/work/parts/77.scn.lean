section SCN
variable {d : Nat} {E : pEv} {r r' r1 r2 : Nat → Nat → Int32} {t t' : Th} {X : Tx} {Q : Option Value → pH → Prop} {v : Nat → Nat}
theorem n7_t : ∀ n, n ≤ 7 → (nI n < 7 ↔ n < 7) ∧ (nI n = 7 ↔ n = 7) := by decide +kernel
theorem wi01 (v a b : Int32) : f_X9_within v a b = 0 ∨ f_X9_within v a b = 1 := by
  unfold f_X9_within
  by_cases h1 : v < a
  · exact Or.inl (if_pos h1)
  · rw [if_neg h1]
    by_cases h2 : b < v
    · exact Or.inl (if_pos h2)
    · exact Or.inr (if_neg h2)
/-- the class: a scene -/
theorem sc_C (s_E : oE E) (hC : tC t r) (ok : tOK t) {x c T A : Int32} : ∀ Q, wX (d + 70) 96 [.ref 10, .int x, .int c, .int T, .int A] (mkH E r) Q = if f_X9_within x 0 69 = 0 ∨ f_X9_within c 0 (nI (2 ^ t.n - 1)) = 0 ∨ f_X9_within T 1 30 = 0 ∨ f_X9_within A 0 63 = 0 then Q (some (.int (er 1))) (mkH E (eC r 1)) else if t.n < 7 then wX (d + 69) 23 [.ref 11, .int x, .int c, .int T, .int A] (mkH E r) (fun v h' => wG (d + 69) 96 (74, [.ref 10, .int x, .int c, .int T, .int A], pv v [], h') Q) else Q (some (.int (er 4))) (mkH E (eC r 4)) := by
  intro Q
  have hn := ok.n
  have eC1 : ∀ Q, wX (d + 69) 136 [.ref 10, .int (-1000000001)] (mkH E r) (fun v h' => wG (d + 69) 96 (42, [.ref 10, .int x, .int c, .int T, .int A], pv v [], h') Q) = Q (some (.int (er 1))) (mkH E (eC r 1)) := fun Q => by
    rw [er1]
    refine (x_wr (d := d + 67) s_E (by decide)).trans ?_
    exact sg_X9_scene_42 (d := d + 69) s_E
  refine (en_X9_scene (d := d + 69) s_E).trans ?_
  refine (x_X9_isKindAndM (d := d + 67) s_E).trans ?_
  refine (sg_X9_scene_4 (d := d + 69) s_E).trans ?_
  show (if f_X9_within x 0 69 = 0 then _ else _) = _
  by_cases h1 : f_X9_within x 0 69 = 0
  · rw [if_pos h1, if_pos (Or.inl h1)]; exact eC1 Q
  · rw [if_neg h1]
    refine (x_X9_isSet (d := d + 67) s_E).trans ?_
    unfold f_X9_isSet
    rw [all_C ok hC]
    refine (sg_X9_scene_12 (d := d + 69) s_E).trans ?_
    by_cases h2 : f_X9_within c 0 (nI (2 ^ t.n - 1)) = 0
    · rw [if_pos h2, if_pos (Or.inr (Or.inl h2))]; exact eC1 Q
    · rw [if_neg h2]
      refine (x_X9_within (d := d + 68) s_E).trans ?_
      refine (sg_X9_scene_22 (d := d + 69) s_E).trans ?_
      by_cases h3 : f_X9_within T 1 30 = 0
      · rw [if_pos h3, if_pos (Or.inr (Or.inr (Or.inl h3)))]; exact eC1 Q
      · rw [if_neg h3]
        refine (x_X9_within (d := d + 68) s_E).trans ?_
        refine (sg_X9_scene_33 (d := d + 69) s_E).trans ?_
        by_cases h4 : f_X9_within A 0 63 = 0
        · rw [if_pos h4, if_pos (Or.inr (Or.inr (Or.inr h4)))]; exact eC1 Q
        · have ng : ¬ (f_X9_within x 0 69 = 0 ∨ f_X9_within c 0 (nI (2 ^ t.n - 1)) = 0 ∨ f_X9_within T 1 30 = 0 ∨ f_X9_within A 0 63 = 0) := fun q => q.elim h1 (fun q => q.elim h2 (fun q => q.elim h3 h4))
          rw [if_neg h4, if_neg ng, hC.n]
          by_cases h7 : t.n < 7
          · rw [if_pos ((n7_t _ hn).1.mpr h7), if_pos h7]
          · rw [if_neg (fun q => h7 ((n7_t _ hn).1.mp q)), if_neg h7, er4]
            refine (x_wr (d := d + 67) s_E (by decide)).trans ?_
            exact sg_X9_scene_61 (d := d + 69) s_E
theorem sc_M (s_E : oE E) (hM : tM t r) (ok : tOK t) {x c T A : Int32} : ∀ Q, wX (d + 70) 181 [.ref 101, .int x, .int c, .int T, .int A] (mkH E r) Q = if f_X9_within x 0 69 = 0 ∨ f_X9_within c 0 (nI (2 ^ t.n - 1)) = 0 ∨ f_X9_within T 1 30 = 0 ∨ f_X9_within A 0 63 = 0 then Q (some (.int (er 1))) (mkH E (eM r 1)) else if t.n < 7 then wG (d + 69) 181 (92, [.ref 101, .int x, .int c, .int T, .int A, .int (nI t.n), .int (nI t.n)], [], mkH E r) Q else Q (some (.int (er 4))) (mkH E (eM r 4)) := by
  intro Q
  have hn := ok.n
  have eM1 : ∀ Q, wX (d + 69) 153 [.ref 101, .int 1] (mkH E r) (fun v h' => wG (d + 69) 181 (62, [.ref 101, .int x, .int c, .int T, .int A, .retAddr 0, .retAddr 0], pv v [], h') Q) = Q (some (.int (er 1))) (mkH E (eM r 1)) := fun Q => by
    refine (x_fin (d := d + 68) (k := 1) s_E (by decide)).trans ?_
    exact sg_X10_scene_62 (d := d + 69) s_E
  have g1 : f_X10_in x.toInt64 0 69 = f_X9_within x 0 69 := in_l (a := 0) (b := 69)
  have g2 : f_X10_in c.toInt64 0 ((nI (2 ^ t.n - 1)).toInt64) = f_X9_within c 0 (nI (2 ^ t.n - 1)) := in_l (a := 0) (b := nI (2 ^ t.n - 1))
  have g3 : f_X10_in T.toInt64 1 30 = f_X9_within T 1 30 := in_l (a := 1) (b := 30)
  have g4 : f_X10_in A.toInt64 0 63 = f_X9_within A 0 63 := in_l (a := 0) (b := 63)
  refine (en_X10_scene (d := d + 69) s_E).trans ?_
  refine (x_X10_in (d := d + 68) s_E).trans ?_
  rw [g1]
  refine (sg_X10_scene_9 (d := d + 69) s_E).trans ?_
  by_cases h1 : f_X9_within x 0 69 = 0
  · rw [if_pos h1, if_pos (Or.inl h1)]; exact eM1 Q
  · rw [if_neg h1]
    refine (x_X10_in (d := d + 68) s_E).trans ?_
    rw [hM.n, allN _ (by omega), g2]
    refine (sg_X10_scene_29 (d := d + 69) s_E).trans ?_
    by_cases h2 : f_X9_within c 0 (nI (2 ^ t.n - 1)) = 0
    · rw [if_pos h2, if_pos (Or.inr (Or.inl h2))]; exact eM1 Q
    · rw [if_neg h2]
      refine (x_X10_in (d := d + 68) s_E).trans ?_
      rw [g3]
      refine (sg_X10_scene_41 (d := d + 69) s_E).trans ?_
      by_cases h3 : f_X9_within T 1 30 = 0
      · rw [if_pos h3, if_pos (Or.inr (Or.inr (Or.inl h3)))]; exact eM1 Q
      · rw [if_neg h3]
        refine (x_X10_in (d := d + 68) s_E).trans ?_
        rw [g4]
        refine (sg_X10_scene_54 (d := d + 69) s_E).trans ?_
        by_cases h4 : f_X9_within A 0 63 = 0
        · rw [if_pos h4, if_pos (Or.inr (Or.inr (Or.inr h4)))]; exact eM1 Q
        · have ng : ¬ (f_X9_within x 0 69 = 0 ∨ f_X9_within c 0 (nI (2 ^ t.n - 1)) = 0 ∨ f_X9_within T 1 30 = 0 ∨ f_X9_within A 0 63 = 0) := fun q => q.elim h1 (fun q => q.elim h2 (fun q => q.elim h3 h4))
          rw [if_neg h4, if_neg ng, hM.n]
          by_cases h7 : t.n < 7
          · rw [if_neg (fun q => by have := (n7_t _ hn).2.mp q; omega), if_pos h7]
          · rw [if_pos ((n7_t _ hn).2.mpr (by omega)), if_neg h7]
            refine (x_fin (d := d + 68) (k := 4) s_E (by decide)).trans ?_
            exact sg_X10_scene_79 (d := d + 69) s_E
theorem op_C (s_E : oE E) (hC : tC t r) (ok : tOK t) (h7 : t.n < 7) {k c T A : Nat} (hk : k < 70) : ∃ rb, tC (t.opn (vlS (k / 10) (k % 10) c T A)) rb ∧ sE (fun a k => (a = 11 ∧ k = 7) ∨ (13 ≤ a ∧ a ≤ 19) ∨ a = 32 ∨ a = 33) r rb ∧ ∀ Q, wX (d + 69) 23 [.ref 11, .int (nI k), .int (nI c), .int (nI T), .int (nI A)] (mkH E r) Q = Q (some (.int (nI t.n))) (mkH E rb) := by
  let ra := g_X5_begin r (13 + t.n) (nI k) (nI c) (nI T) (nI A)
  have ra_o : ∀ a j, a ≠ 13 + t.n ∨ j = 0 → ra a j = r a j := fun a j h => beg_o h
  have hs : rK ra 32 7 t.n := ⟨(ra_o 32 1 (by omega)).trans hC.o1, by omega, by decide⟩
  let rb0 : Nat → Nat → Int32 := uI (fR ra 33 (t.n + 1) (fun j => if j < 0 then ra 33 j else if j = 0 then nI t.n else ra 33 (j - 1))) 32 1 (nI (t.n + 1))
  have e117 : rb0 11 7 = nI t.n := by
    show uI _ 32 1 _ 11 7 = _
    rw [uI_o (by omega), fR_o (by omega), ra_o 11 7 (by omega)]
    exact hC.n
  have o0 : ∀ a j, a ≠ 33 → (a ≠ 32 ∨ j ≠ 1) → rb0 a j = ra a j := fun a j h1 h2 => by
    show uI _ 32 1 _ a j = _
    rw [uI_o (by omega), fR_o h1]
  refine ⟨uI rb0 11 7 (nI (t.n + 1)), tC_opn hC h7 rfl uI_e ?_ (fun f hf => ?_) (fun i f hi q => ?_) ?_ (fun i hi => ?_) ?_, fun a j q => ?_, fun Q => ?_⟩
  · rw [uI_o (by omega), o0 _ _ (by omega) (by omega), ra_o _ _ (by omega)]
  · rw [uI_o (by omega), o0 _ _ (by omega) (by omega)]
    exact beg_at hk f hf
  · rw [uI_o (by omega), o0 _ _ (by omega) (by omega), ra_o _ _ (by omega)]
  · rw [uI_o (by omega)]; exact uI_e
  · rw [uI_o (by omega)]
    show uI _ 32 1 _ 33 i = _
    rw [uI_o (by omega), fR_at hi, if_neg (by omega)]
    by_cases q : i = 0
    · rw [if_pos q, if_pos q]
    · rw [if_neg q, if_neg q, ra_o _ _ (by omega)]
      exact hC.o _ (by omega)
  · rw [uI_o (by omega), o0 _ _ (by omega) (by omega), ra_o _ _ (by omega)]
  · by_cases q3 : a = 33
    · omega
    · rw [uI_o (by omega), o0 _ _ (by omega) (by omega), ra_o _ _ (by omega)]
  · refine (en_X2_open (d := d + 68) s_E).trans ?_
    rw [hC.n]
    refine (x_X2_at (d := d + 67) s_E oP11).trans ?_
    rw [sc_at h7]
    refine (sg_X2_open_12 (d := d + 68) s_E (oS11 h7)).trans ?_
    refine (x_X5_begin (d := d + 66) s_E (oS11 h7)).trans ?_
    refine (sg_X2_open_20 (d := d + 68) s_E).trans ?_
    refine (x_X4_insert (d := d + 67) (c_h0 := 7) (p := 0) s_E (oR rfl) hs (by omega) h7).trans ?_
    refine (sg_X2_open_30 (d := d + 68) s_E).trans ?_
    show Q _ (mkH E (uI rb0 11 7 (rb0 11 7 + 1))) = _
    rw [e117, ← nI_succ]
theorem op_M (s_E : oE E) (hM : tM t r) (ok : tOK t) (h7 : t.n < 7) {k c T A : Nat} (hk : k < 70) : ∃ rb, tM (t.opn (vlS (k / 10) (k % 10) c T A)) rb ∧ sE (fun a k => a = 102 ∧ (k = 0 ∨ (10 ≤ k ∧ k ≤ 86))) r rb ∧ ∀ Q, wG (d + 69) 181 (92, [.ref 101, .int (nI k), .int (nI c), .int (nI T), .int (nI A), .int (nI t.n), .int (nI t.n)], [], mkH E r) Q = Q (some (.int (nI t.n))) (mkH E rb) := by
  -- shifting down
  have ld : ∀ i rr, i ≤ t.n → (∀ k, k < t.n + 1 → k ≠ i → rr 102 (80 + k) = nI (if i < k then t.o (k - 1) else t.o k)) → (i < t.n → rr 102 (80 + i) = nI (t.o i)) → sE (fun a k => a = 102 ∧ 80 ≤ k ∧ k ≤ 86) r rr → ∃ rs, (∀ k, k < t.n + 1 → k ≠ 0 → rs 102 (80 + k) = nI (t.o (k - 1))) ∧ sE (fun a k => a = 102 ∧ 80 ≤ k ∧ k ≤ 86) r rs ∧ ∀ Q, wG (d + 69) 181 (92, [.ref 101, .int (nI k), .int (nI c), .int (nI T), .int (nI A), .int (nI t.n), .int (nI i)], [], mkH E rr) Q = wX (d + 69) 158 [.ref 101, .int (nI t.n), .int 0, .int (nI k / 10)] (mkH E (uI (uI rs 102 80 (nI t.n)) 102 0 (((uI rs 102 80 (nI t.n)) 102 0) + 1))) (fun v h' => wG (d + 69) 181 (155, [.ref 101, .int (nI k), .int (nI c), .int (nI T), .int (nI A), .int (nI t.n), .int 0], pv v [], h') Q) := by
    intro i
    induction i with
    | zero =>
      intro rr hi h1 h2 h3
      refine ⟨rr, fun k hk hk0 => (h1 k hk hk0).trans (by rw [if_pos (by omega)]), h3, fun Q => ?_⟩
      refine (sg_X10_scene_92 (d := d + 69) s_E (fun w => absurd w (by decide)) (fun w => absurd w (by decide))).trans ?_
      rw [if_neg (by decide)]
      rfl
    | succ i ih =>
      intro rr hi h1 h2 h3
      have oa := o_at (show i + 1 < 7 by omega)
      obtain ⟨_, _, o1, o2⟩ := o_a1 (i + 1) (by omega)
      obtain ⟨rs, g1, g2, g3⟩ := ih (uI rr 102 (80 + (i + 1)) (rr 102 (79 + (i + 1)))) (by omega) (fun k hk hne => by
        by_cases q : k = i + 1
        · subst q
          rw [uI_e, show 79 + (i + 1) = 80 + i by omega, h1 i (by omega) (by omega), if_neg (by omega), if_pos (by omega), show i + 1 - 1 = i by omega]
        · rw [uI_o (by omega), h1 k hk q]
          by_cases q2 : i + 1 < k
          · rw [if_pos q2, if_pos (by omega)]
          · rw [if_neg q2, if_neg (by omega)]) (fun _ => by rw [uI_o (by omega), h1 i (by omega) (by omega), if_neg (by omega)]) (sE_tr h3 (sE_u ⟨rfl, by omega, by omega⟩))
      refine ⟨rs, g1, g2, fun Q => ?_⟩
      have pos : (0 : Int32) < nI (i + 1) := nI_lt (a := 0) (by omega) (by omega)
      refine (sg_X10_scene_92 (d := d + 69) s_E (fun w => ⟨o2, by omega⟩) (fun w => ⟨oa.2, by omega⟩)).trans ?_
      rw [if_pos pos, oa.1, o1, nI_dec]
      exact g3 Q
  obtain ⟨rs, g1, g2, g3⟩ := ld t.n r (Nat.le_refl _) (fun k hk hne => by rw [hM.o k (by omega), if_neg (by omega)]) (fun w => absurd w (by omega)) sE_rf
  have hn := ok.n
  obtain ⟨k1, k2⟩ := km_t k hk
  let q0 : Nat → Nat → Int32 := uI (uI rs 102 80 (nI t.n)) 102 0 (nI (t.n + 1))
  let vv : Nat → Int32 := fun f => nI (vlS (k / 10) (k % 10) c T A f)
  have e0 : uI (uI rs 102 80 (nI t.n)) 102 0 (((uI rs 102 80 (nI t.n)) 102 0) + 1) = q0 := by
    rw [uI_o (r := rs) (by omega), g2 102 0 (by omega), hM.n, ← nI_succ]
  have stp : ∀ f, f < 9 → g_X10_puts (fO q0 102 (10 + 10 * t.n) f vv) (nI t.n) (nI f) (vv f) = fO q0 102 (10 + 10 * t.n) (f + 1) vv := fun f hf => by
    rw [puts_n (by omega) hf]
    exact fO_s
  have pt : ∀ f, f < 9 → ∀ Q, wX (d + 69) 158 [.ref 101, .int (nI t.n), .int (nI f), .int (vv f)] (mkH E (fO q0 102 (10 + 10 * t.n) f vv)) Q = Q none (mkH E (fO q0 102 (10 + 10 * t.n) (f + 1) vv)) := fun f hf Q => by
    refine (x_X10_puts (d := d + 68) s_E (itc (by omega) hf)).trans ?_
    rw [stp f hf]
  have rs_o : ∀ j, j < 80 → rs 102 j = r 102 j := fun j hj => g2 102 j (by omega)
  refine ⟨fO q0 102 (10 + 10 * t.n) 9 vv, tM_opn hM h7 rfl ?_ ?_ (fun f hf => fO_e (by omega)) (fun i f hi hf => ?_) (fun i hi => ?_), fun a j q => ?_, fun Q => ?_⟩
  · rw [fO_o (by omega)]; exact uI_e
  · rw [fO_o (by omega)]
    show uI _ 102 0 _ 102 2 = _
    rw [uI_o (by omega), uI_o (by omega), rs_o _ (by omega)]
  · rw [fO_o (by omega)]
    show uI _ 102 0 _ 102 _ = _
    rw [uI_o (by omega), uI_o (by omega), rs_o _ (by omega)]
  · rw [fO_o (by omega)]
    show uI _ 102 0 _ 102 _ = _
    rw [uI_o (by omega)]
    by_cases q : i = 0
    · rw [if_pos q, q]; exact uI_e
    · rw [uI_o (by omega), if_neg q]
      exact g1 i hi q
  · rw [fO_o (by omega)]
    show uI _ 102 0 _ a j = _
    rw [uI_o (by omega), uI_o (by omega), g2 a j (by omega)]
  · refine (g3 Q).trans ?_
    rw [e0, k1]
    have p0 := pt 0 (by omega)
    rw [fO_0] at p0
    refine (p0 _).trans ?_
    refine (sg_X10_scene_155 (d := d + 69) s_E).trans ?_
    rw [k2]
    refine (pt 1 (by omega) _).trans ?_
    refine (sg_X10_scene_166 (d := d + 69) s_E).trans ?_
    refine (pt 2 (by omega) _).trans ?_
    refine (sg_X10_scene_174 (d := d + 69) s_E).trans ?_
    refine (pt 3 (by omega) _).trans ?_
    refine (sg_X10_scene_182 (d := d + 69) s_E).trans ?_
    refine (pt 4 (by omega) _).trans ?_
    refine (sg_X10_scene_191 (d := d + 69) s_E).trans ?_
    refine (pt 5 (by omega) _).trans ?_
    refine (sg_X10_scene_199 (d := d + 69) s_E).trans ?_
    refine (pt 6 (by omega) _).trans ?_
    refine (sg_X10_scene_208 (d := d + 69) s_E).trans ?_
    refine (pt 7 (by omega) _).trans ?_
    refine (sg_X10_scene_217 (d := d + 69) s_E).trans ?_
    refine (pt 8 (by omega) _).trans ?_
    exact sg_X10_scene_226 (d := d + 69) s_E
theorem st_scene (s_E : oE E) (hI : Inv r) {x c T A : Int32} : stI E d r 96 [.ref 10, .int x, .int c, .int T, .int A] 181 [.ref 101, .int x, .int c, .int T, .int A] := by
  obtain ⟨t, X, ok, xo, hP⟩ := hI.1
  obtain ⟨hC, hX, hM, hXM, hy⟩ := id hP
  have hn := ok.n
  have p7 : 2 ^ t.n ≤ 128 := p128 ok
  have p1 : 1 ≤ 2 ^ t.n := Nat.one_le_two_pow
  have pC := sc_C (d := d) s_E hC ok (x := x) (c := c) (T := T) (A := A)
  have pM := fun ra (hra : tM t ra) => sc_M (d := d) (r := ra) s_E hra ok (x := x) (c := c) (T := T) (A := A)
  by_cases g : f_X9_within x 0 69 = 0 ∨ f_X9_within c 0 (nI (2 ^ t.n - 1)) = 0 ∨ f_X9_within T 1 30 = 0 ∨ f_X9_within A 0 63 = 0
  · refine st_e hI (k := 1) (by decide) (fun Q => ?_) (fun Q => ?_)
    · rw [pC, if_pos g]
    · rw [pM _ (tM_eC hM), if_pos g]
  · by_cases h7 : t.n < 7
    · rcases wi_v (x := x) (a := 0) (m := 69) (by decide) (by decide) with h | ⟨k, _, hk, rfl, _⟩
      · exact absurd (Or.inl h) g
      rcases wi_v (x := c) (a := 0) (m := 2 ^ t.n - 1) (by omega) (by decide) with h | ⟨c, _, hc, rfl, _⟩
      · exact absurd (Or.inr (Or.inl h)) g
      rcases wi_v (x := T) (a := 1) (m := 30) (by decide) (by decide) with h | ⟨T, hT1, hT, rfl, _⟩
      · exact absurd (Or.inr (Or.inr (Or.inl h))) g
      rcases wi_v (x := A) (a := 0) (m := 63) (by decide) (by decide) with h | ⟨A, _, hA, rfl, _⟩
      · exact absurd (Or.inr (Or.inr (Or.inr h))) g
      obtain ⟨rb, c1, c2, c3⟩ := op_C (d := d) (E := E) s_E hC ok h7 (k := k) (c := c) (T := T) (A := A) (by omega)
      have hMb : tM t rb := hM.fr (funext fun j => c2 102 j (by omega))
      obtain ⟨rm, m1, m2, m3⟩ := op_M (d := d) (E := E) s_E hMb ok h7 (k := k) (c := c) (T := T) (A := A) (by omega)
      have o1 : tOK (t.opn (vlS (k / 10) (k % 10) c T A)) := tOK_opn ok h7 (by show k / 10 < 7; omega) (by show k % 10 < 10; omega) (by show c < 2 ^ t.n; omega) ⟨hT1, hT⟩ (by show A < 64; omega) rfl (by show 1 ≤ 1; omega)
      refine ⟨nI t.n, rb, rm, fun Q => ?_, fun Q => ?_, Inv_t hI xo hX hXM hy o1 (tC_f c1 o1.n (fun a j q => m2 a j (by unfold rTC at q; omega))) m1 (sE_tr (sE_mo c2 (fun a j q => ?_)) (sE_mo m2 (fun a j q => ?_)))⟩
      · rw [pC, if_neg g, if_pos h7]
        refine (c3 _).trans ?_
        exact sg_X9_scene_74 (d := d + 69) s_E
      · rw [pM _ hMb, if_neg g, if_pos h7]
        exact m3 Q
      · rcases q with q | q | q | q
        · exact Or.inl (by omega)
        · exact Or.inr (Or.inl (by omega))
        · exact Or.inr (Or.inr (Or.inl q))
        · exact Or.inr (Or.inr (Or.inr (Or.inl q)))
      · exact Or.inr (Or.inr (Or.inr (Or.inr (Or.inl (by omega)))))
    · refine st_e hI (k := 4) (by decide) (fun Q => ?_) (fun Q => ?_)
      · rw [pC, if_neg g, if_neg h7]
      · rw [pM _ (tM_eC hM), if_neg g, if_neg h7]
end SCN
