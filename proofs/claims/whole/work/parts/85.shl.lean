/-! SHEETS: sheet -/
section SHL
variable {d : Nat} {E : pEv} {r r' r1 r2 : Nat → Nat → Int32} {t t' : Th} {X : Tx} {Q : Option Value → pH → Prop}
theorem held_n {z : Nat} (hz : z ≤ 40) : f_X9_held (nI z) 0 (Int32.ofNat 40) = nI z := by
  have : ∀ z, z < 41 → f_X9_held (nI z) 0 (Int32.ofNat 40) = nI z := by decide +kernel
  exact this z (by omega)
theorem x_resize (s_E : oE E) {a z : Nat} (ha : oRow a 40) (hz : z ≤ 40) : wX (d + 4) 67 [.ref a, .int (nI z)] (mkH E r) Q = Q none (mkH E (fR (uI r a 1 (nI z)) (a + 1) z (fun _ => 0))) := by
  refine (en_X4_resize (d := d + 3) s_E ha).trans ?_
  refine (x_X9_held (d := d + 2) s_E).trans ?_
  rw [held_n hz]
  refine (sg_X4_resize_11 (d := d + 3) s_E ha ha).trans ?_
  have hk : rK (uI r a 1 (nI z)) a 40 z := ⟨uI_e, hz, by decide⟩
  refine (x_X4_changeAll (d := d + 1) s_E ha hk).trans ?_
  exact sg_X4_resize_19 (d := d + 3) s_E ha
theorem x_lay (s_E : oE E) {s bi z : Nat} (hs : s < 4) (hb : bi < 33) (hz : z ≤ 40) {n : Int32} (h : bi = 0 ∧ z = 0 ∨ bi ≠ 0 ∧ n = nI z) : wX (d + 5) 84 [.ref (f_X9_sheetAt (nI s)), .int (nI bi), .int n] (mkH E r) Q = Q none (mkH E (fR (uI (uI r (88 + 3 * s) 1 (nI bi)) (89 + 3 * s) 1 (nI z)) (90 + 3 * s) z (fun _ => 0))) := by
  have ho := oSh_at (x := nI s)
  refine (en_X6_lay (d := d + 4) s_E ho).trans ?_
  have hr : oRow (f_X9_sheetAt (nI s) + 1) 40 := ho.2.2.2
  have e1 : fR (uI (uI r (f_X9_sheetAt (nI s)) 1 (nI bi)) (f_X9_sheetAt (nI s) + 1) 1 (nI z)) (f_X9_sheetAt (nI s) + 1 + 1) z (fun _ => 0) = fR (uI (uI r (88 + 3 * s) 1 (nI bi)) (89 + 3 * s) 1 (nI z)) (90 + 3 * s) z (fun _ => 0) := by
    rw [sAt s hs, show 88 + 3 * s + 1 = 89 + 3 * s by omega, show 89 + 3 * s + 1 = 90 + 3 * s by omega]
  rcases h with ⟨h1, h2⟩ | ⟨h1, h2⟩
  · have h3 : nI bi = 0 := by rw [h1]; rfl
    rw [if_pos h3]
    have := x_resize (d := d) (E := E) (r := uI r (f_X9_sheetAt (nI s)) 1 (nI bi)) (z := z) s_E hr hz (Q := fun v h' => wG (d + 4) 84 (21, [.ref (f_X9_sheetAt (nI s)), .int (nI bi), .int n], pv v [], h') Q)
    rw [h2] at this
    refine this.trans ?_
    refine (sg_X6_lay_21 (d := d + 4) s_E ho).trans ?_
    rw [← e1, h2]
  · have h3 : ¬ nI bi = 0 := fun w => h1 ((bi_t bi hb).1.mp w)
    rw [if_neg h3, h2]
    refine (x_resize (d := d) s_E hr hz).trans ?_
    refine (sg_X6_lay_21 (d := d + 4) s_E ho).trans ?_
    rw [← e1]
theorem st_sheet (s_E : oE E) (hI : Inv r) {x b n : Int32} : stI E d r 125 [.ref 10, .int x, .int b, .int n] 234 [.ref 101, .int x, .int b, .int n] := by
  have hh := hI.2.2.2.2.1
  have gC : f_X9_isSheet x = f_X9_within x 0 3 := rfl
  have gM : f_X10_isSheet x = f_X9_within x 0 3 := in_l (a := 0) (b := 3)
  have hb : ¬ f_X9_within x 0 3 = 0 → ¬ x < 0 ∧ x.toNatClampNeg < 4 := fun q => by
    rcases wi_v (x := x) (a := 0) (m := 3) (by decide) (by decide) with h2 | ⟨s, _, hs, rfl, h2⟩
    · exact absurd h2 q
    · exact ix_n (by omega) (by decide)
  have pC : ∀ Q, wX (d + 70) 125 [.ref 10, .int x, .int b, .int n] (mkH E r) Q = _ := fun Q => (en_X9_sheet (d := d + 69) s_E).trans ((x_X9_isSheet (d := d + 67) s_E).trans (sg_X9_sheet_4 (d := d + 69) s_E))
  have pM0 : ∀ ra Q, wX (d + 70) 234 [.ref 101, .int x, .int b, .int n] (mkH E ra) Q = wG (d + 69) 234 (4, [.ref 101, .int x, .int b, .int n, .retAddr 0], [.int (f_X9_within x 0 3)], mkH E ra) Q := fun ra Q => (en_X10_sheet (d := d + 69) s_E).trans ((x_X10_isSheet (d := d + 67) s_E).trans (by rw [gM]; rfl))
  have pM : ∀ ra Q, wX (d + 70) 234 [.ref 101, .int x, .int b, .int n] (mkH E ra) Q = _ := fun ra Q => (pM0 ra Q).trans (sg_X10_sheet_4 (d := d + 69) s_E (fun q _ _ _ => hb q) (fun q _ _ _ _ => hb q) (fun q _ _ _ _ => hb q) (fun q _ _ _ _ => hb q) (fun q _ _ _ _ _ => hb q) (fun q _ _ _ _ _ => hb q) (fun q _ _ _ _ => hb q) (fun q _ _ _ _ _ => hb q) (fun q _ _ _ _ _ => hb q) (fun q _ _ _ _ _ => hb q) (fun q _ _ _ _ _ _ => hb q) (fun q _ _ _ _ _ _ => hb q) (fun q _ _ _ _ => hb q) (fun q _ _ _ _ _ => hb q) (fun q _ _ _ _ _ => hb q) (fun q _ _ _ _ _ => hb q) (fun q _ _ _ _ _ _ => hb q) (fun q _ _ _ _ _ _ => hb q) (fun q _ _ _ _ _ => hb q) (fun q _ _ _ _ _ _ => hb q) (fun q _ _ _ _ _ _ => hb q) (fun q _ _ _ _ _ _ => hb q) (fun q _ _ _ _ _ _ _ => hb q) (fun q _ _ _ _ _ _ _ => hb q) (fun q _ _ _ _ _ => hb q) (fun q _ _ _ _ _ _ => hb q) (fun q _ _ _ _ _ _ => hb q) (fun q _ _ _ _ _ _ => hb q) (fun q _ _ _ _ _ _ _ => hb q) (fun q _ _ _ _ _ _ _ => hb q) (fun q _ _ _ _ _ _ => hb q) (fun q _ _ _ _ _ _ _ => hb q) (fun q _ _ _ _ _ _ _ => hb q) (fun q _ _ _ _ _ _ _ => hb q) (fun q _ _ _ _ _ _ _ _ => hb q) (fun q _ _ _ _ _ _ _ _ => hb q) (fun q _ _ _ _ _ _ => hb q) (fun q _ _ _ _ _ _ _ => hb q) (fun q _ _ _ _ _ _ _ => hb q) (fun q _ _ _ _ _ _ _ => hb q) (fun q _ _ _ _ _ _ _ _ => hb q) (fun q _ _ _ _ _ _ _ _ => hb q) (fun q _ _ _ _ _ _ _ => hb q) (fun q _ _ _ _ _ _ _ _ => hb q) (fun q _ _ _ _ _ _ _ _ => hb q) (fun q _ _ _ _ _ _ _ _ => hb q) (fun q _ _ _ _ _ _ _ _ _ => hb q) (fun q _ _ _ _ _ _ _ _ _ => hb q))
  have c1 : ∀ Q, wX (d + 69) 136 [.ref 10, .int (-1000000001)] (mkH E r) (fun v h' => wG (d + 69) 125 (35, [.ref 10, .int x, .int b, .int n], pv v [], h') Q) = Q (some (.int (er 1))) (mkH E (eC r 1)) := fun Q => by
    rw [er1]
    refine (x_wr (d := d + 67) s_E (by decide)).trans ?_
    exact sg_X9_sheet_35 (d := d + 69) s_E
  have c3 : ∀ Q, wX (d + 69) 136 [.ref 10, .int (-1000000003)] (mkH E r) (fun v h' => wG (d + 69) 125 (51, [.ref 10, .int x, .int b, .int n], pv v [], h') Q) = Q (some (.int (er 3))) (mkH E (eC r 3)) := fun Q => by
    rw [er3]
    refine (x_wr (d := d + 67) s_E (by decide)).trans ?_
    exact sg_X9_sheet_51 (d := d + 69) s_E
  have c4 : ∀ Q, wX (d + 69) 136 [.ref 10, .int (-1000000001)] (mkH E r) (fun v h' => wG (d + 69) 125 (68, [.ref 10, .int x, .int b, .int n], pv v [], h') Q) = Q (some (.int (er 1))) (mkH E (eC r 1)) := fun Q => by
    rw [er1]
    refine (x_wr (d := d + 67) s_E (by decide)).trans ?_
    exact sg_X9_sheet_68 (d := d + 69) s_E
  have m1 : ∀ ra Q, wX (d + 69) 153 [.ref 101, .int 1] (mkH E ra) (fun v h' => wG (d + 69) 234 (34, [.ref 101, .int x, .int b, .int n, .retAddr 0], pv v [], h') Q) = Q (some (.int (er 1))) (mkH E (eM ra 1)) := fun ra Q => by
    refine (x_fin (d := d + 68) (k := 1) s_E (by decide)).trans ?_
    exact sg_X10_sheet_34 (d := d + 69) s_E
  have m3 : ∀ ra Q, wX (d + 69) 153 [.ref 101, .int 3] (mkH E ra) (fun v h' => wG (d + 69) 234 (48, [.ref 101, .int x, .int b, .int n, .retAddr 0], pv v [], h') Q) = Q (some (.int (er 3))) (mkH E (eM ra 3)) := fun ra Q => by
    refine (x_fin (d := d + 68) (k := 3) s_E (by decide)).trans ?_
    exact sg_X10_sheet_48 (d := d + 69) s_E
  have m4 : ∀ ra Q, wX (d + 69) 153 [.ref 101, .int 1] (mkH E ra) (fun v h' => wG (d + 69) 234 (64, [.ref 101, .int x, .int b, .int n, .retAddr 0], pv v [], h') Q) = Q (some (.int (er 1))) (mkH E (eM ra 1)) := fun ra Q => by
    refine (x_fin (d := d + 68) (k := 1) s_E (by decide)).trans ?_
    exact sg_X10_sheet_64 (d := d + 69) s_E
  rcases wi_v (x := x) (a := 0) (m := 3) (by decide) (by decide) with h | ⟨s, _, hs, rfl, h⟩
  · have h : f_X9_within x 0 3 = 0 := h
    refine st_e hI (k := 1) (by decide) (fun Q => ?_) (fun Q => ?_)
    · rw [pC, gC, h, if_pos rfl]; exact c1 Q
    · rw [pM, h, if_pos rfl]; exact m1 _ Q
  · have h : f_X9_within (nI s) 0 3 = 1 := h
    have n1 : ¬ (1 : Int32) = 0 := by decide
    have hs4 : s < 4 := by omega
    -- a sheet laid
    have go : ∀ bi z, b = nI bi → (bi = 0 ∨ bi = 8 ∨ bi = 16 ∨ bi = 32) → z ≤ 40 → (bi = 0 ∧ z = 0 ∨ bi ≠ 0 ∧ n = nI z) → (∀ Q, wX (d + 70) 125 [.ref 10, .int (nI s), .int b, .int n] (mkH E r) Q = wX (d + 69) 143 [.ref 10, .int (nI s)] (mkH E r) (fun v h' => wG (d + 69) 125 (74, [.ref 10, .int (nI s), .int b, .int n], pv v [], h') Q)) → (∀ ra Q, wX (d + 70) 234 [.ref 101, .int (nI s), .int b, .int n] (mkH E ra) Q = wG (d + 69) 234 (90, [.ref 101, .int (nI s), .int b, .int n, .int 0], [], mkH E (uI (uI ra 112 (nI s).toNatClampNeg b) 113 (nI s).toNatClampNeg (nI z))) Q) → stI E d r 125 [.ref 10, .int (nI s), .int b, .int n] 234 [.ref 101, .int (nI s), .int b, .int n] := by
      intro bi z hbi hbo hz hcase hC hM
      let ra : Nat → Nat → Int32 := fR (uI (uI r (88 + 3 * s) 1 (nI bi)) (89 + 3 * s) 1 (nI z)) (90 + 3 * s) z (fun _ => 0)
      let rb : Nat → Nat → Int32 := uI (uI ra 112 s (nI bi)) 113 s (nI z)
      have lp : ∀ j i, i + j = 40 → ∀ Q, wG (d + 69) 234 (90, [.ref 101, .int (nI s), .int b, .int n, .int (nI i)], [], mkH E (fO rb 114 (40 * s) i (fun _ => 0))) Q = Q (some (.int 1)) (mkH E (fO rb 114 (40 * s) 40 (fun _ => 0))) := by
        intro j
        induction j with
        | zero =>
          intro i hi Q
          obtain rfl : i = 40 := by omega
          refine (sg_X10_sheet_90 (d := d + 69) s_E (fun q => absurd q (by decide))).trans ?_
          rw [if_neg (by decide)]
        | succ j ih =>
          intro i hi Q
          obtain ⟨x1, x2⟩ := ix40 s hs4 i (by omega)
          refine (sg_X10_sheet_90 (d := d + 69) s_E (fun _ => ⟨x2, by omega⟩)).trans ?_
          have hlt : nI i < 40 := nI_lt (b := 40) (by omega) (by decide)
          rw [if_pos hlt, x1, fO_s (g := fun _ => 0), ← nI_succ]
          exact ih (i + 1) (by omega) Q
      refine ⟨1, ra, fO rb 114 (40 * s) 40 (fun _ => 0), fun Q => ?_, fun Q => ?_, Inv_s hI (hR_1 hh hs4 (s := s) (z := z) (bi := bi) ⟨hz, hbo, ?_, ?_, ?_, ?_, fun k hk => ?_⟩ (fun a k q => ?_)) (sE_tr (r' := ra) (sE_tr (sE_u (by unfold PS; omega)) (sE_tr (sE_u (by unfold PS; omega)) (fR_E (fun k _ => by unfold PS; omega)))) (sE_tr (sE_u (by unfold PS; omega)) (sE_tr (sE_u (by unfold PS; omega)) (fO_E (fun k _ _ => by unfold PS; omega)))))⟩
      · rw [hC]
        refine (x_X9_sheetAt (d := d + 67) s_E).trans ?_
        refine (sg_X9_sheet_74 (d := d + 69) s_E oSh_at).trans ?_
        rw [hbi]
        refine (x_lay (d := d + 64) s_E hs4 (by omega) hz hcase).trans ?_
        exact sg_X9_sheet_79 (d := d + 69) s_E
      · rw [hM, nI_clamp (by omega)]
        have := lp 40 0 (by omega) Q
        rw [fO_0] at this
        rw [hbi] at this ⊢
        exact this
      · rw [fO_o (by omega)]
        show uI _ 113 s _ (88 + 3 * s) 1 = _
        rw [uI_o (by omega), uI_o (by omega)]
        show fR _ _ _ _ (88 + 3 * s) 1 = _
        rw [fR_o (by omega), uI_o (by omega), uI_e]
      · rw [fO_o (by omega)]
        show uI _ 113 s _ 112 s = _
        rw [uI_o (by omega), uI_e]
      · rw [fO_o (by omega)]
        show uI _ 113 s _ (89 + 3 * s) 1 = _
        rw [uI_o (by omega), uI_o (by omega)]
        show fR _ _ _ _ (89 + 3 * s) 1 = _
        rw [fR_o (by omega), uI_e]
      · rw [fO_o (by omega)]
        exact uI_e
      · rw [fO_e (by omega), fO_o (by omega)]
        show uI _ 113 s _ (90 + 3 * s) k = _
        rw [uI_o (by omega), uI_o (by omega)]
        show fR _ _ _ _ (90 + 3 * s) k = _
        rw [fR_at hk]
      · rw [fO_o (by omega)]
        show uI _ 113 s _ a k = _
        rw [uI_o (by omega), uI_o (by omega)]
        show fR _ _ _ _ a k = _
        unfold fR
        rw [if_neg (by omega), uI_o (by omega), uI_o (by omega)]
    have bad : (∀ Q, wX (d + 70) 125 [.ref 10, .int (nI s), .int b, .int n] (mkH E r) Q = Q (some (.int (er 1))) (mkH E (eC r 1))) → (∀ ra Q, wX (d + 70) 234 [.ref 101, .int (nI s), .int b, .int n] (mkH E ra) Q = Q (some (.int (er 1))) (mkH E (eM ra 1))) → stI E d r 125 [.ref 10, .int (nI s), .int b, .int n] 234 [.ref 101, .int (nI s), .int b, .int n] := fun a1 a2 => st_e hI (k := 1) (by decide) a1 (a2 _)
    have bad3 : (∀ Q, wX (d + 70) 125 [.ref 10, .int (nI s), .int b, .int n] (mkH E r) Q = Q (some (.int (er 3))) (mkH E (eC r 3))) → (∀ ra Q, wX (d + 70) 234 [.ref 101, .int (nI s), .int b, .int n] (mkH E ra) Q = Q (some (.int (er 3))) (mkH E (eM ra 3))) → stI E d r 125 [.ref 10, .int (nI s), .int b, .int n] 234 [.ref 101, .int (nI s), .int b, .int n] := fun a1 a2 => st_e hI (k := 3) (by decide) a1 (a2 _)
    have n40 : ¬ n < 0 → ¬ 40 < n → ∃ z, z ≤ 40 ∧ n = nI z := fun q1 q2 => by
      obtain ⟨z, hz, rfl⟩ := nI_of q1
      refine ⟨z, ?_, rfl⟩
      rcases Nat.lt_or_ge 40 z with w | w
      · exact absurd (nI_lt (a := 40) w hz) q2
      · exact w
    by_cases h0 : b = 0
    · refine go 0 0 h0 (by omega) (by omega) (Or.inl ⟨rfl, rfl⟩) (fun Q => ?_) (fun ra Q => ?_)
      · rw [pC, gC, h]
        simp only [if_neg n1, if_pos h0]
      · rw [pM, h]
        simp only [if_neg n1, if_pos h0]
        rfl
    · by_cases h8 : b = 8
      · by_cases hn : n < 0
        · refine bad3 (fun Q => ?_) (fun ra Q => ?_)
          · rw [pC, gC, h]
            simp only [if_neg n1, if_neg h0, if_pos h8, if_pos hn]; exact c3 Q
          · rw [pM, h]
            simp only [if_neg n1, if_neg h0, if_pos h8, if_pos hn]; exact m3 ra Q
        · by_cases hn2 : 40 < n
          · refine bad (fun Q => ?_) (fun ra Q => ?_)
            · rw [pC, gC, h]
              simp only [if_neg n1, if_neg h0, if_pos h8, if_neg hn, if_pos hn2]; exact c4 Q
            · rw [pM, h]
              simp only [if_neg n1, if_neg h0, if_pos h8, if_neg hn, if_pos hn2]; exact m4 ra Q
          · obtain ⟨z, hz, ez⟩ := n40 hn hn2
            refine go 8 z h8 (by omega) hz (Or.inr ⟨by decide, ez⟩) (fun Q => ?_) (fun ra Q => ?_)
            · rw [pC, gC, h]
              simp only [if_neg n1, if_neg h0, if_pos h8, if_neg hn, if_neg hn2]
            · rw [pM, h]
              simp only [if_neg n1, if_neg h0, if_pos h8, if_neg hn, if_neg hn2]
              rw [ez]
      · by_cases h16 : b = 16
        · by_cases hn : n < 0
          · refine bad3 (fun Q => ?_) (fun ra Q => ?_)
            · rw [pC, gC, h]
              simp only [if_neg n1, if_neg h0, if_neg h8, if_pos h16, if_pos hn]; exact c3 Q
            · rw [pM, h]
              simp only [if_neg n1, if_neg h0, if_neg h8, if_pos h16, if_pos hn]; exact m3 ra Q
          · by_cases hn2 : 40 < n
            · refine bad (fun Q => ?_) (fun ra Q => ?_)
              · rw [pC, gC, h]
                simp only [if_neg n1, if_neg h0, if_neg h8, if_pos h16, if_neg hn, if_pos hn2]; exact c4 Q
              · rw [pM, h]
                simp only [if_neg n1, if_neg h0, if_neg h8, if_pos h16, if_neg hn, if_pos hn2]; exact m4 ra Q
            · obtain ⟨z, hz, ez⟩ := n40 hn hn2
              refine go 16 z h16 (by omega) hz (Or.inr ⟨by decide, ez⟩) (fun Q => ?_) (fun ra Q => ?_)
              · rw [pC, gC, h]
                simp only [if_neg n1, if_neg h0, if_neg h8, if_pos h16, if_neg hn, if_neg hn2]
              · rw [pM, h]
                simp only [if_neg n1, if_neg h0, if_neg h8, if_pos h16, if_neg hn, if_neg hn2]
                rw [ez]
        · by_cases h32 : b = 32
          · by_cases hn : n < 0
            · refine bad3 (fun Q => ?_) (fun ra Q => ?_)
              · rw [pC, gC, h]
                simp only [if_neg n1, if_neg h0, if_neg h8, if_neg h16, if_pos h32, if_pos hn]; exact c3 Q
              · rw [pM, h]
                simp only [if_neg n1, if_neg h0, if_neg h8, if_neg h16, if_pos h32, if_pos hn]; exact m3 ra Q
            · by_cases hn2 : 40 < n
              · refine bad (fun Q => ?_) (fun ra Q => ?_)
                · rw [pC, gC, h]
                  simp only [if_neg n1, if_neg h0, if_neg h8, if_neg h16, if_pos h32, if_neg hn, if_pos hn2]; exact c4 Q
                · rw [pM, h]
                  simp only [if_neg n1, if_neg h0, if_neg h8, if_neg h16, if_pos h32, if_neg hn, if_pos hn2]; exact m4 ra Q
              · obtain ⟨z, hz, ez⟩ := n40 hn hn2
                refine go 32 z h32 (by omega) hz (Or.inr ⟨by decide, ez⟩) (fun Q => ?_) (fun ra Q => ?_)
                · rw [pC, gC, h]
                  simp only [if_neg n1, if_neg h0, if_neg h8, if_neg h16, if_pos h32, if_neg hn, if_neg hn2]
                · rw [pM, h]
                  simp only [if_neg n1, if_neg h0, if_neg h8, if_neg h16, if_pos h32, if_neg hn, if_neg hn2]
                  rw [ez]
          · refine bad (fun Q => ?_) (fun ra Q => ?_)
            · rw [pC, gC, h]
              simp only [if_neg n1, if_neg h0, if_neg h8, if_neg h16, if_neg h32]; exact c1 Q
            · rw [pM, h]
              simp only [if_neg n1, if_neg h0, if_neg h8, if_neg h16, if_neg h32]; exact m1 ra Q
end SHL
