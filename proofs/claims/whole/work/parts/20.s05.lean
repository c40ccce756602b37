theorem en_X5_begin {d : Nat} {E : pEv} {ro : Nat → Nat → Int32} {Q : Option Value → pH → Prop} (s_E : oE E) {r0 : Nat} (h0 : oScene r0) {x1 : Int32} {x2 : Int32} {x3 : Int32} {x4 : Int32} : wX (d + 1) 73 [.ref r0, .int x1, .int x2, .int x3, .int x4] (mkH E ro) Q = wX d 74 [.ref r0, .int 4, .int 0, .int 0] (mkH E (uI (uI (uI (uI (uI (uI ro r0 1 (x1 / 10)) r0 2 (x1 - x1 / 10 * 10)) r0 3 x2) r0 4 x3) r0 5 x4) r0 9 1)) (fun v h' => wG d 73 (44, [.ref r0, .int x1, .int x2, .int x3, .int x4], pv v [], h') Q) := by
  refine (wX_in rfl (by decide)).trans ?_
  show wG d 73 (0, [.ref r0, .int x1, .int x2, .int x3, .int x4], [], mkH E ro) Q = _
  refine (r_aload_n rfl rfl rfl).trans ?_
  refine (r_iload_n rfl rfl rfl).trans ?_
  refine (r_bipush (v := 10) rfl rfl rfl).trans ?_
  refine (r_idiv rfl rfl (by decide)).trans ?_
  refine (r_putI (ci := 5) (sl := 1) rfl rfl rfl h0.2.1 h0.1).trans ?_
  refine (r_aload_n rfl rfl rfl).trans ?_
  refine (r_iload_n rfl rfl rfl).trans ?_
  refine (r_bipush (v := 10) rfl rfl rfl).trans ?_
  refine (r_irem rfl rfl (by decide)).trans ?_
  refine (r_putI (ci := 5) (sl := 2) rfl rfl rfl h0.2.1 h0.1).trans ?_
  refine (r_aload_n rfl rfl rfl).trans ?_
  refine (r_iload_n rfl rfl rfl).trans ?_
  refine (r_putI (ci := 5) (sl := 3) rfl rfl rfl h0.2.1 h0.1).trans ?_
  refine (r_aload_n rfl rfl rfl).trans ?_
  refine (r_iload_n rfl rfl rfl).trans ?_
  refine (r_putI (ci := 5) (sl := 4) rfl rfl rfl h0.2.1 h0.1).trans ?_
  refine (r_aload_n rfl rfl rfl).trans ?_
  refine (r_iload rfl rfl rfl).trans ?_
  refine (r_putI (ci := 5) (sl := 5) rfl rfl rfl h0.2.1 h0.1).trans ?_
  refine (r_aload_n rfl rfl rfl).trans ?_
  refine (r_iconst (v := 1) rfl rfl rfl).trans ?_
  refine (r_putI (ci := 5) (sl := 9) rfl rfl rfl h0.2.1 h0.1).trans ?_
  refine (r_aload_n rfl rfl rfl).trans ?_
  refine (r_iconst (v := 4) rfl rfl rfl).trans ?_
  refine (r_iconst (v := 0) rfl rfl rfl).trans ?_
  refine (r_iconst (v := 0) rfl rfl rfl).trans ?_
  exact r_inv (m := 74) (c := 5) rfl rfl rfl rfl rfl rfl h0.2.1 rfl

theorem sg_X5_begin_44 {d : Nat} {E : pEv} {ro : Nat → Nat → Int32} {Q : Option Value → pH → Prop} (s_E : oE E) {r0 : Nat} (h0 : oScene r0) {x1 : Int32} {x2 : Int32} {x3 : Int32} {x4 : Int32} : wG d 73 (44, [.ref r0, .int x1, .int x2, .int x3, .int x4], [], mkH E ro) Q = Q none (mkH E ro) := by
  exact r_vret rfl rfl

theorem en_X5_carry {d : Nat} {E : pEv} {ro : Nat → Nat → Int32} {Q : Option Value → pH → Prop} (s_E : oE E) {r0 : Nat} (h0 : oScene r0) {x1 : Int32} {x2 : Int32} {x3 : Int32} : wX (d + 1) 74 [.ref r0, .int x1, .int x2, .int x3] (mkH E ro) Q = Q none (mkH E (uI (uI (uI ro r0 6 x1) r0 7 x2) r0 8 x3)) := by
  refine (wX_in rfl (by decide)).trans ?_
  show wG d 74 (0, [.ref r0, .int x1, .int x2, .int x3], [], mkH E ro) Q = _
  refine (r_aload_n rfl rfl rfl).trans ?_
  refine (r_iload_n rfl rfl rfl).trans ?_
  refine (r_putI (ci := 5) (sl := 6) rfl rfl rfl h0.2.1 h0.1).trans ?_
  refine (r_aload_n rfl rfl rfl).trans ?_
  refine (r_iload_n rfl rfl rfl).trans ?_
  refine (r_putI (ci := 5) (sl := 7) rfl rfl rfl h0.2.1 h0.1).trans ?_
  refine (r_aload_n rfl rfl rfl).trans ?_
  refine (r_iload_n rfl rfl rfl).trans ?_
  refine (r_putI (ci := 5) (sl := 8) rfl rfl rfl h0.2.1 h0.1).trans ?_
  exact r_vret rfl rfl

theorem en_X5_own {d : Nat} {E : pEv} {ro : Nat → Nat → Int32} {Q : Option Value → pH → Prop} (s_E : oE E) {r0 : Nat} (h0 : oScene r0) {x1 : Int32} : wX (d + 1) 75 [.ref r0, .int x1] (mkH E ro) Q = (if x1 = 0 then Q (some (.int (ro r0 1))) (mkH E ro) else (if x1 = 1 then Q (some (.int (ro r0 2))) (mkH E ro) else (if x1 = 2 then Q (some (.int (ro r0 3))) (mkH E ro) else (if x1 = 3 then Q (some (.int (ro r0 4))) (mkH E ro) else (if x1 = 4 then Q (some (.int (ro r0 5))) (mkH E ro) else (if x1 = 5 then Q (some (.int (ro r0 6))) (mkH E ro) else (if x1 = 6 then Q (some (.int (ro r0 9))) (mkH E ro) else wX d 78 [.ref r0] (mkH E ro) (fun v h' => wG d 75 (83, [.ref r0, .int x1], pv v [], h') Q)))))))) := by
  refine (wX_in rfl (by decide)).trans ?_
  show wG d 75 (0, [.ref r0, .int x1], [], mkH E ro) Q = _
  refine (r_iload_n rfl rfl rfl).trans ?_
  refine (r_sw (i := (78, 0, 6)) rfl rfl).trans ?_
  refine (r_swc (y := 0) rfl).trans ?_
  refine ite_congr rfl (fun h_0 => ?_) (fun h_0 => ?_)
  · refine (r_aload_n rfl rfl rfl).trans ?_
    refine (r_getI (ci := 5) (sl := 1) rfl rfl rfl h0.2.1 h0.1).trans ?_
    exact r_iret rfl rfl
  · refine (r_swc (y := 1) rfl).trans ?_
    refine ite_congr rfl (fun h_1 => ?_) (fun h_1 => ?_)
    · refine (r_aload_n rfl rfl rfl).trans ?_
      refine (r_getI (ci := 5) (sl := 2) rfl rfl rfl h0.2.1 h0.1).trans ?_
      exact r_iret rfl rfl
    · refine (r_swc (y := 2) rfl).trans ?_
      refine ite_congr rfl (fun h_2 => ?_) (fun h_2 => ?_)
      · refine (r_aload_n rfl rfl rfl).trans ?_
        refine (r_getI (ci := 5) (sl := 3) rfl rfl rfl h0.2.1 h0.1).trans ?_
        exact r_iret rfl rfl
      · refine (r_swc (y := 3) rfl).trans ?_
        refine ite_congr rfl (fun h_3 => ?_) (fun h_3 => ?_)
        · refine (r_aload_n rfl rfl rfl).trans ?_
          refine (r_getI (ci := 5) (sl := 4) rfl rfl rfl h0.2.1 h0.1).trans ?_
          exact r_iret rfl rfl
        · refine (r_swc (y := 4) rfl).trans ?_
          refine ite_congr rfl (fun h_4 => ?_) (fun h_4 => ?_)
          · refine (r_aload_n rfl rfl rfl).trans ?_
            refine (r_getI (ci := 5) (sl := 5) rfl rfl rfl h0.2.1 h0.1).trans ?_
            exact r_iret rfl rfl
          · refine (r_swc (y := 5) rfl).trans ?_
            refine ite_congr rfl (fun h_5 => ?_) (fun h_5 => ?_)
            · refine (r_aload_n rfl rfl rfl).trans ?_
              refine (r_getI (ci := 5) (sl := 6) rfl rfl rfl h0.2.1 h0.1).trans ?_
              exact r_iret rfl rfl
            · refine (r_swc (y := 6) rfl).trans ?_
              refine ite_congr rfl (fun h_6 => ?_) (fun h_6 => ?_)
              · refine (r_aload_n rfl rfl rfl).trans ?_
                refine (r_getI (ci := 5) (sl := 9) rfl rfl rfl h0.2.1 h0.1).trans ?_
                exact r_iret rfl rfl
              · refine r_swn.trans ?_
                refine (r_aload_n rfl rfl rfl).trans ?_
                exact r_inv (m := 78) (c := 5) rfl rfl rfl rfl rfl rfl h0.2.1 rfl

theorem sg_X5_own_83 {d : Nat} {E : pEv} {ro : Nat → Nat → Int32} {Q : Option Value → pH → Prop} (s_E : oE E) {r0 : Nat} (h0 : oScene r0) {x1 : Int32} {xs0 : Int32} : wG d 75 (83, [.ref r0, .int x1], [.int xs0], mkH E ro) Q = Q (some (.int xs0)) (mkH E ro) := by
  exact r_iret rfl rfl

theorem en_X5_mayHave {d : Nat} {E : pEv} {ro : Nat → Nat → Int32} {Q : Option Value → pH → Prop} (s_E : oE E) {x0 : Int32} {x1 : Int32} : wX (d + 1) 76 [.int x0, .int x1] (mkH E ro) Q = (if x0 = 3 then wX d 146 [.int x1, .int 1, .int 30] (mkH E ro) (fun v h' => wG d 76 (39, [.int x0, .int x1], pv v [], h') Q) else (if x0 = 4 then wX d 146 [.int x1, .int 0, .int 63] (mkH E ro) (fun v h' => wG d 76 (47, [.int x0, .int x1], pv v [], h') Q) else (if x0 = 5 then Q (some (.int 0)) (mkH E ro) else (if x0 = 6 then wX d 146 [.int x1, .int 0, .int 1] (mkH E ro) (fun v h' => wG d 76 (54, [.int x0, .int x1], pv v [], h') Q) else Q (some (.int 0)) (mkH E ro))))) := by
  refine (wX_in rfl (by decide)).trans ?_
  show wG d 76 (0, [.int x0, .int x1], [], mkH E ro) Q = _
  refine (r_iload_n rfl rfl rfl).trans ?_
  refine (r_sw (i := (54, 3, 6)) rfl rfl).trans ?_
  refine (r_swc (y := 3) rfl).trans ?_
  refine ite_congr rfl (fun h_0 => ?_) (fun h_0 => ?_)
  · refine (r_iload_n rfl rfl rfl).trans ?_
    refine (r_iconst (v := 1) rfl rfl rfl).trans ?_
    refine (r_bipush (v := 30) rfl rfl rfl).trans ?_
    exact r_ins (m := 146) rfl rfl rfl rfl rfl rfl
  · refine (r_swc (y := 4) rfl).trans ?_
    refine ite_congr rfl (fun h_1 => ?_) (fun h_1 => ?_)
    · refine (r_iload_n rfl rfl rfl).trans ?_
      refine (r_iconst (v := 0) rfl rfl rfl).trans ?_
      refine (r_bipush (v := 63) rfl rfl rfl).trans ?_
      exact r_ins (m := 146) rfl rfl rfl rfl rfl rfl
    · refine (r_swc (y := 5) rfl).trans ?_
      refine ite_congr rfl (fun h_2 => ?_) (fun h_2 => ?_)
      · refine (r_iconst (v := 0) rfl rfl rfl).trans ?_
        exact r_zret rfl rfl rfl
      · refine (r_swc (y := 6) rfl).trans ?_
        refine ite_congr rfl (fun h_3 => ?_) (fun h_3 => ?_)
        · refine (r_iload_n rfl rfl rfl).trans ?_
          refine (r_iconst (v := 0) rfl rfl rfl).trans ?_
          refine (r_iconst (v := 1) rfl rfl rfl).trans ?_
          exact r_ins (m := 146) rfl rfl rfl rfl rfl rfl
        · refine r_swn.trans ?_
          refine (r_iconst (v := 0) rfl rfl rfl).trans ?_
          exact r_zret rfl rfl rfl

theorem sg_X5_mayHave_39 {d : Nat} {E : pEv} {ro : Nat → Nat → Int32} {Q : Option Value → pH → Prop} (s_E : oE E) {x0 : Int32} {x1 : Int32} {xs0 : Int32} (b0 : (narrow .boolean (.int xs0) = .int xs0)) : wG d 76 (39, [.int x0, .int x1], [.int xs0], mkH E ro) Q = Q (some (.int xs0)) (mkH E ro) := by
  exact r_zret rfl rfl b0

theorem sg_X5_mayHave_47 {d : Nat} {E : pEv} {ro : Nat → Nat → Int32} {Q : Option Value → pH → Prop} (s_E : oE E) {x0 : Int32} {x1 : Int32} {xs0 : Int32} (b0 : (narrow .boolean (.int xs0) = .int xs0)) : wG d 76 (47, [.int x0, .int x1], [.int xs0], mkH E ro) Q = Q (some (.int xs0)) (mkH E ro) := by
  exact r_zret rfl rfl b0

theorem sg_X5_mayHave_54 {d : Nat} {E : pEv} {ro : Nat → Nat → Int32} {Q : Option Value → pH → Prop} (s_E : oE E) {x0 : Int32} {x1 : Int32} {xs0 : Int32} (b0 : (narrow .boolean (.int xs0) = .int xs0)) : wG d 76 (54, [.int x0, .int x1], [.int xs0], mkH E ro) Q = Q (some (.int xs0)) (mkH E ro) := by
  exact r_zret rfl rfl b0

theorem en_X5_change {d : Nat} {E : pEv} {ro : Nat → Nat → Int32} {Q : Option Value → pH → Prop} (s_E : oE E) {r0 : Nat} (h0 : oScene r0) {x1 : Int32} {x2 : Int32} : wX (d + 1) 77 [.ref r0, .int x1, .int x2] (mkH E ro) Q = wX d 75 [.ref r0, .int x1] (mkH E ro) (fun v h' => wG d 77 (5, [.ref r0, .int x1, .int x2, .retAddr 0], pv v [], h') Q) := by
  refine (wX_in rfl (by decide)).trans ?_
  show wG d 77 (0, [.ref r0, .int x1, .int x2, .retAddr 0], [], mkH E ro) Q = _
  refine (r_aload_n rfl rfl rfl).trans ?_
  refine (r_iload_n rfl rfl rfl).trans ?_
  exact r_inv (m := 75) (c := 5) rfl rfl rfl rfl rfl rfl h0.2.1 rfl

theorem sg_X5_change_5 {d : Nat} {E : pEv} {ro : Nat → Nat → Int32} {Q : Option Value → pH → Prop} (s_E : oE E) {r0 : Nat} (h0 : oScene r0) {x1 : Int32} {x2 : Int32} {v3 : Value} {xs0 : Int32} : wG d 77 (5, [.ref r0, .int x1, .int x2, v3], [.int xs0], mkH E ro) Q = (if x1 = 3 then Q (some (.int xs0)) (mkH E (uI ro r0 4 x2)) else (if x1 = 4 then Q (some (.int xs0)) (mkH E (uI ro r0 5 x2)) else Q (some (.int xs0)) (mkH E (uI ro r0 9 x2)))) := by
  refine (r_istore_n rfl rfl rfl rfl).trans ?_
  refine (r_iload_n rfl rfl rfl).trans ?_
  refine (r_lk rfl rfl).trans ?_
  refine (r_swc (y := 3) rfl).trans ?_
  refine ite_congr rfl (fun h_0 => ?_) (fun h_0 => ?_)
  · refine (r_aload_n rfl rfl rfl).trans ?_
    refine (r_iload_n rfl rfl rfl).trans ?_
    refine (r_putI (ci := 5) (sl := 4) rfl rfl rfl h0.2.1 h0.1).trans ?_
    refine (r_goto rfl rfl).trans ?_
    refine (r_iload_n rfl rfl rfl).trans ?_
    exact r_iret rfl rfl
  · refine (r_swc (y := 4) rfl).trans ?_
    refine ite_congr rfl (fun h_1 => ?_) (fun h_1 => ?_)
    · refine (r_aload_n rfl rfl rfl).trans ?_
      refine (r_iload_n rfl rfl rfl).trans ?_
      refine (r_putI (ci := 5) (sl := 5) rfl rfl rfl h0.2.1 h0.1).trans ?_
      refine (r_goto rfl rfl).trans ?_
      refine (r_iload_n rfl rfl rfl).trans ?_
      exact r_iret rfl rfl
    · refine r_swn.trans ?_
      refine (r_aload_n rfl rfl rfl).trans ?_
      refine (r_iload_n rfl rfl rfl).trans ?_
      refine (r_putI (ci := 5) (sl := 9) rfl rfl rfl h0.2.1 h0.1).trans ?_
      refine (r_iload_n rfl rfl rfl).trans ?_
      exact r_iret rfl rfl

theorem en_X5_shock {d : Nat} {E : pEv} {ro : Nat → Nat → Int32} {Q : Option Value → pH → Prop} (s_E : oE E) {r0 : Nat} (h0 : oScene r0) : wX (d + 1) 78 [.ref r0] (mkH E ro) Q = (if (ro r0 1) = 2 then Q (some (.int (ro r0 2))) (mkH E ro) else (if (ro r0 1) = 3 then Q (some (.int 5)) (mkH E ro) else (if (ro r0 1) = 4 then Q (some (.int 0)) (mkH E ro) else (if (ro r0 1) = 5 then Q (some (.int (ro r0 2))) (mkH E ro) else (if (ro r0 1) = 6 then Q (some (.int (5 + (ro r0 2)))) (mkH E ro) else Q (some (.int 0)) (mkH E ro)))))) := by
  refine (wX_in rfl (by decide)).trans ?_
  show wG d 78 (0, [.ref r0], [], mkH E ro) Q = _
  refine (r_aload_n rfl rfl rfl).trans ?_
  refine (r_getI (ci := 5) (sl := 1) rfl rfl rfl h0.2.1 h0.1).trans ?_
  refine (r_sw (i := (50, 2, 6)) rfl rfl).trans ?_
  refine (r_swc (y := 2) rfl).trans ?_
  refine ite_congr rfl (fun h_0 => ?_) (fun h_0 => ?_)
  · refine (r_aload_n rfl rfl rfl).trans ?_
    refine (r_getI (ci := 5) (sl := 2) rfl rfl rfl h0.2.1 h0.1).trans ?_
    exact r_iret rfl rfl
  · refine (r_swc (y := 3) rfl).trans ?_
    refine ite_congr rfl (fun h_1 => ?_) (fun h_1 => ?_)
    · refine (r_iconst (v := 5) rfl rfl rfl).trans ?_
      exact r_iret rfl rfl
    · refine (r_swc (y := 4) rfl).trans ?_
      refine ite_congr rfl (fun h_2 => ?_) (fun h_2 => ?_)
      · refine (r_iconst (v := 0) rfl rfl rfl).trans ?_
        exact r_iret rfl rfl
      · refine (r_swc (y := 5) rfl).trans ?_
        refine ite_congr rfl (fun h_3 => ?_) (fun h_3 => ?_)
        · refine (r_aload_n rfl rfl rfl).trans ?_
          refine (r_getI (ci := 5) (sl := 2) rfl rfl rfl h0.2.1 h0.1).trans ?_
          exact r_iret rfl rfl
        · refine (r_swc (y := 6) rfl).trans ?_
          refine ite_congr rfl (fun h_4 => ?_) (fun h_4 => ?_)
          · refine (r_iconst (v := 5) rfl rfl rfl).trans ?_
            refine (r_aload_n rfl rfl rfl).trans ?_
            refine (r_getI (ci := 5) (sl := 2) rfl rfl rfl h0.2.1 h0.1).trans ?_
            refine (r_iadd rfl rfl).trans ?_
            exact r_iret rfl rfl
          · refine r_swn.trans ?_
            refine (r_iconst (v := 0) rfl rfl rfl).trans ?_
            exact r_iret rfl rfl

theorem en_X5_comesOf {d : Nat} {E : pEv} {ro : Nat → Nat → Int32} {Q : Option Value → pH → Prop} (s_E : oE E) {r0 : Nat} (h0 : oScene r0) {x1 : Int32} {x2 : Int32} : wX (d + 1) 79 [.ref r0, .int x1, .int x2] (mkH E ro) Q = wX d 255 [.int (ro r0 3)] (mkH E ro) (fun v h' => wG d 79 (7, [.ref r0, .int x1, .int x2, .retAddr 0], pv v [], h') Q) := by
  refine (wX_in rfl (by decide)).trans ?_
  show wG d 79 (0, [.ref r0, .int x1, .int x2, .retAddr 0], [], mkH E ro) Q = _
  refine (r_aload_n rfl rfl rfl).trans ?_
  refine (r_getI (ci := 5) (sl := 3) rfl rfl rfl h0.2.1 h0.1).trans ?_
  exact r_ins (m := 255) rfl rfl rfl rfl rfl rfl

theorem sg_X5_comesOf_7 {d : Nat} {E : pEv} {ro : Nat → Nat → Int32} {Q : Option Value → pH → Prop} (s_E : oE E) {r0 : Nat} (h0 : oScene r0) {x1 : Int32} {x2 : Int32} {v3 : Value} {xs0 : Int32} : wG d 79 (7, [.ref r0, .int x1, .int x2, v3], [.int xs0], mkH E ro) Q = (if x2 = 0 then (if x1 = xs0 then Q (some (.int 1)) (mkH E ro) else Q (some (.int 0)) (mkH E ro)) else (if x2 = 1 then (if x1 < 1 then Q (some (.int 0)) (mkH E ro) else Q (some (.int 1)) (mkH E ro)) else (if x2 = 2 then (if (x1 - x1 / 2 * 2) = 1 then Q (some (.int 1)) (mkH E ro) else Q (some (.int 0)) (mkH E ro)) else (if x2 = 3 then (if x1 < xs0 then Q (some (.int 1)) (mkH E ro) else Q (some (.int 0)) (mkH E ro)) else (if x2 = 4 then (if x1 < (1 + ((ro r0 2) - (ro r0 2) / 3 * 3)) then Q (some (.int 0)) (mkH E ro) else Q (some (.int 1)) (mkH E ro)) else (if x2 = 5 then (if (x1 - x1 / 2 * 2) = 1 then (if ((ro r0 2) - (ro r0 2) / 2 * 2) = 1 then Q (some (.int 0)) (mkH E ro) else Q (some (.int 1)) (mkH E ro)) else (if ((ro r0 2) - (ro r0 2) / 2 * 2) = 1 then Q (some (.int 1)) (mkH E ro) else Q (some (.int 0)) (mkH E ro))) else (if 4 < (ro r0 2) then Q (some (.int 1)) (mkH E ro) else (if x1 < xs0 then Q (some (.int 1)) (mkH E ro) else Q (some (.int 0)) (mkH E ro))))))))) := by
  refine (r_istore_n rfl rfl rfl rfl).trans ?_
  refine (r_iload_n rfl rfl rfl).trans ?_
  refine (r_sw (i := (139, 0, 5)) rfl rfl).trans ?_
  refine (r_swc (y := 0) rfl).trans ?_
  refine ite_congr rfl (fun h_0 => ?_) (fun h_0 => ?_)
  · refine (r_iload_n rfl rfl rfl).trans ?_
    refine (r_iload_n rfl rfl rfl).trans ?_
    refine (r_icmp_ne rfl rfl rfl).trans ?_
    refine ite_congr rfl (fun h_1 => ?_) (fun h_1 => ?_)
    · refine (r_iconst (v := 1) rfl rfl rfl).trans ?_
      refine (r_goto rfl rfl).trans ?_
      exact r_zret rfl rfl rfl
    · refine (r_iconst (v := 0) rfl rfl rfl).trans ?_
      exact r_zret rfl rfl rfl
  · refine (r_swc (y := 1) rfl).trans ?_
    refine ite_congr rfl (fun h_1 => ?_) (fun h_1 => ?_)
    · refine (r_iload_n rfl rfl rfl).trans ?_
      refine (r_iconst (v := 1) rfl rfl rfl).trans ?_
      refine (r_icmp_lt rfl rfl rfl).trans ?_
      refine ite_congr rfl (fun h_2 => ?_) (fun h_2 => ?_)
      · refine (r_iconst (v := 0) rfl rfl rfl).trans ?_
        exact r_zret rfl rfl rfl
      · refine (r_iconst (v := 1) rfl rfl rfl).trans ?_
        refine (r_goto rfl rfl).trans ?_
        exact r_zret rfl rfl rfl
    · refine (r_swc (y := 2) rfl).trans ?_
      refine ite_congr rfl (fun h_2 => ?_) (fun h_2 => ?_)
      · refine (r_iload_n rfl rfl rfl).trans ?_
        refine (r_iconst (v := 2) rfl rfl rfl).trans ?_
        refine (r_irem rfl rfl (by decide)).trans ?_
        refine (r_iconst (v := 1) rfl rfl rfl).trans ?_
        refine (r_icmp_ne rfl rfl rfl).trans ?_
        refine ite_congr rfl (fun h_3 => ?_) (fun h_3 => ?_)
        · refine (r_iconst (v := 1) rfl rfl rfl).trans ?_
          refine (r_goto rfl rfl).trans ?_
          exact r_zret rfl rfl rfl
        · refine (r_iconst (v := 0) rfl rfl rfl).trans ?_
          exact r_zret rfl rfl rfl
      · refine (r_swc (y := 3) rfl).trans ?_
        refine ite_congr rfl (fun h_3 => ?_) (fun h_3 => ?_)
        · refine (r_iload_n rfl rfl rfl).trans ?_
          refine (r_iload_n rfl rfl rfl).trans ?_
          refine (r_icmp_ge rfl rfl rfl).trans ?_
          refine ite_congr rfl (fun h_4 => ?_) (fun h_4 => ?_)
          · refine (r_iconst (v := 1) rfl rfl rfl).trans ?_
            refine (r_goto rfl rfl).trans ?_
            exact r_zret rfl rfl rfl
          · refine (r_iconst (v := 0) rfl rfl rfl).trans ?_
            exact r_zret rfl rfl rfl
        · refine (r_swc (y := 4) rfl).trans ?_
          refine ite_congr rfl (fun h_4 => ?_) (fun h_4 => ?_)
          · refine (r_iload_n rfl rfl rfl).trans ?_
            refine (r_iconst (v := 1) rfl rfl rfl).trans ?_
            refine (r_aload_n rfl rfl rfl).trans ?_
            refine (r_getI (ci := 5) (sl := 2) rfl rfl rfl h0.2.1 h0.1).trans ?_
            refine (r_iconst (v := 3) rfl rfl rfl).trans ?_
            refine (r_irem rfl rfl (by decide)).trans ?_
            refine (r_iadd rfl rfl).trans ?_
            refine (r_icmp_lt rfl rfl rfl).trans ?_
            refine ite_congr rfl (fun h_5 => ?_) (fun h_5 => ?_)
            · refine (r_iconst (v := 0) rfl rfl rfl).trans ?_
              exact r_zret rfl rfl rfl
            · refine (r_iconst (v := 1) rfl rfl rfl).trans ?_
              refine (r_goto rfl rfl).trans ?_
              exact r_zret rfl rfl rfl
          · refine (r_swc (y := 5) rfl).trans ?_
            refine ite_congr rfl (fun h_5 => ?_) (fun h_5 => ?_)
            · refine (r_iload_n rfl rfl rfl).trans ?_
              refine (r_iconst (v := 2) rfl rfl rfl).trans ?_
              refine (r_irem rfl rfl (by decide)).trans ?_
              refine (r_iconst (v := 1) rfl rfl rfl).trans ?_
              refine (r_icmp_ne rfl rfl rfl).trans ?_
              refine ite_congr rfl (fun h_6 => ?_) (fun h_6 => ?_)
              · refine (r_iconst (v := 1) rfl rfl rfl).trans ?_
                refine (r_goto rfl rfl).trans ?_
                refine (r_aload_n rfl rfl rfl).trans ?_
                refine (r_getI (ci := 5) (sl := 2) rfl rfl rfl h0.2.1 h0.1).trans ?_
                refine (r_iconst (v := 2) rfl rfl rfl).trans ?_
                refine (r_irem rfl rfl (by decide)).trans ?_
                refine (r_iconst (v := 1) rfl rfl rfl).trans ?_
                refine (r_icmp_ne rfl rfl rfl).trans ?_
                refine ite_congr rfl (fun h_7 => ?_) (fun h_7 => ?_)
                · refine (r_iconst (v := 1) rfl rfl rfl).trans ?_
                  refine (r_goto rfl rfl).trans ?_
                  refine (r_icmp_eq rfl rfl rfl).trans ?_
                  refine (if_pos (by decide)).trans ?_
                  refine (r_iconst (v := 0) rfl rfl rfl).trans ?_
                  exact r_zret rfl rfl rfl
                · refine (r_iconst (v := 0) rfl rfl rfl).trans ?_
                  refine (r_icmp_eq rfl rfl rfl).trans ?_
                  refine (if_neg (by decide)).trans ?_
                  refine (r_iconst (v := 1) rfl rfl rfl).trans ?_
                  refine (r_goto rfl rfl).trans ?_
                  exact r_zret rfl rfl rfl
              · refine (r_iconst (v := 0) rfl rfl rfl).trans ?_
                refine (r_aload_n rfl rfl rfl).trans ?_
                refine (r_getI (ci := 5) (sl := 2) rfl rfl rfl h0.2.1 h0.1).trans ?_
                refine (r_iconst (v := 2) rfl rfl rfl).trans ?_
                refine (r_irem rfl rfl (by decide)).trans ?_
                refine (r_iconst (v := 1) rfl rfl rfl).trans ?_
                refine (r_icmp_ne rfl rfl rfl).trans ?_
                refine ite_congr rfl (fun h_7 => ?_) (fun h_7 => ?_)
                · refine (r_iconst (v := 1) rfl rfl rfl).trans ?_
                  refine (r_goto rfl rfl).trans ?_
                  refine (r_icmp_eq rfl rfl rfl).trans ?_
                  refine (if_neg (by decide)).trans ?_
                  refine (r_iconst (v := 1) rfl rfl rfl).trans ?_
                  refine (r_goto rfl rfl).trans ?_
                  exact r_zret rfl rfl rfl
                · refine (r_iconst (v := 0) rfl rfl rfl).trans ?_
                  refine (r_icmp_eq rfl rfl rfl).trans ?_
                  refine (if_pos (by decide)).trans ?_
                  refine (r_iconst (v := 0) rfl rfl rfl).trans ?_
                  exact r_zret rfl rfl rfl
            · refine r_swn.trans ?_
              refine (r_aload_n rfl rfl rfl).trans ?_
              refine (r_getI (ci := 5) (sl := 2) rfl rfl rfl h0.2.1 h0.1).trans ?_
              refine (r_iconst (v := 4) rfl rfl rfl).trans ?_
              refine (r_icmp_gt rfl rfl rfl).trans ?_
              refine ite_congr rfl (fun h_6 => ?_) (fun h_6 => ?_)
              · refine (r_iconst (v := 1) rfl rfl rfl).trans ?_
                refine (r_goto rfl rfl).trans ?_
                exact r_zret rfl rfl rfl
              · refine (r_iload_n rfl rfl rfl).trans ?_
                refine (r_iload_n rfl rfl rfl).trans ?_
                refine (r_icmp_ge rfl rfl rfl).trans ?_
                refine ite_congr rfl (fun h_7 => ?_) (fun h_7 => ?_)
                · refine (r_iconst (v := 1) rfl rfl rfl).trans ?_
                  refine (r_goto rfl rfl).trans ?_
                  exact r_zret rfl rfl rfl
                · refine (r_iconst (v := 0) rfl rfl rfl).trans ?_
                  exact r_zret rfl rfl rfl

theorem en_X5_beginsAt {d : Nat} {E : pEv} {ro : Nat → Nat → Int32} {Q : Option Value → pH → Prop} (s_E : oE E) {r0 : Nat} (h0 : oScene r0) {x1 : Int32} : wX (d + 1) 80 [.ref r0, .int x1] (mkH E ro) Q = (if x1 = 1 then Q (some (.int (ro r0 8))) (mkH E ro) else Q (some (.int (ro r0 7))) (mkH E ro)) := by
  refine (wX_in rfl (by decide)).trans ?_
  show wG d 80 (0, [.ref r0, .int x1], [], mkH E ro) Q = _
  refine (r_iload_n rfl rfl rfl).trans ?_
  refine (r_iconst (v := 1) rfl rfl rfl).trans ?_
  refine (r_icmp_ne rfl rfl rfl).trans ?_
  refine ite_congr rfl (fun h_0 => ?_) (fun h_0 => ?_)
  · refine (r_aload_n rfl rfl rfl).trans ?_
    refine (r_getI (ci := 5) (sl := 8) rfl rfl rfl h0.2.1 h0.1).trans ?_
    refine (r_goto rfl rfl).trans ?_
    exact r_iret rfl rfl
  · refine (r_aload_n rfl rfl rfl).trans ?_
    refine (r_getI (ci := 5) (sl := 7) rfl rfl rfl h0.2.1 h0.1).trans ?_
    exact r_iret rfl rfl

theorem en_X5_endsAt {d : Nat} {E : pEv} {ro : Nat → Nat → Int32} {Q : Option Value → pH → Prop} (s_E : oE E) {r0 : Nat} (h0 : oScene r0) {x1 : Int32} : wX (d + 1) 81 [.ref r0, .int x1] (mkH E ro) Q = (if x1 = 1 then Q (some (.int (ro r0 7))) (mkH E ro) else Q (some (.int (ro r0 8))) (mkH E ro)) := by
  refine (wX_in rfl (by decide)).trans ?_
  show wG d 81 (0, [.ref r0, .int x1], [], mkH E ro) Q = _
  refine (r_iload_n rfl rfl rfl).trans ?_
  refine (r_iconst (v := 1) rfl rfl rfl).trans ?_
  refine (r_icmp_ne rfl rfl rfl).trans ?_
  refine ite_congr rfl (fun h_0 => ?_) (fun h_0 => ?_)
  · refine (r_aload_n rfl rfl rfl).trans ?_
    refine (r_getI (ci := 5) (sl := 7) rfl rfl rfl h0.2.1 h0.1).trans ?_
    refine (r_goto rfl rfl).trans ?_
    exact r_iret rfl rfl
  · refine (r_aload_n rfl rfl rfl).trans ?_
    refine (r_getI (ci := 5) (sl := 8) rfl rfl rfl h0.2.1 h0.1).trans ?_
    exact r_iret rfl rfl

theorem en_X5_copyFrom {d : Nat} {E : pEv} {ro : Nat → Nat → Int32} {Q : Option Value → pH → Prop} (s_E : oE E) {r0 : Nat} (h0 : oScene r0) {r1 : Nat} (h1 : oScene r1) : wX (d + 1) 82 [.ref r0, .ref r1] (mkH E ro) Q = Q none (mkH E (uI (uI (uI (uI (uI (uI (uI (uI (uI ro r0 1 (ro r1 1)) r0 2 ((uI ro r0 1 (ro r1 1)) r1 2)) r0 3 ((uI (uI ro r0 1 (ro r1 1)) r0 2 ((uI ro r0 1 (ro r1 1)) r1 2)) r1 3)) r0 4 ((uI (uI (uI ro r0 1 (ro r1 1)) r0 2 ((uI ro r0 1 (ro r1 1)) r1 2)) r0 3 ((uI (uI ro r0 1 (ro r1 1)) r0 2 ((uI ro r0 1 (ro r1 1)) r1 2)) r1 3)) r1 4)) r0 5 ((uI (uI (uI (uI ro r0 1 (ro r1 1)) r0 2 ((uI ro r0 1 (ro r1 1)) r1 2)) r0 3 ((uI (uI ro r0 1 (ro r1 1)) r0 2 ((uI ro r0 1 (ro r1 1)) r1 2)) r1 3)) r0 4 ((uI (uI (uI ro r0 1 (ro r1 1)) r0 2 ((uI ro r0 1 (ro r1 1)) r1 2)) r0 3 ((uI (uI ro r0 1 (ro r1 1)) r0 2 ((uI ro r0 1 (ro r1 1)) r1 2)) r1 3)) r1 4)) r1 5)) r0 6 ((uI (uI (uI (uI (uI ro r0 1 (ro r1 1)) r0 2 ((uI ro r0 1 (ro r1 1)) r1 2)) r0 3 ((uI (uI ro r0 1 (ro r1 1)) r0 2 ((uI ro r0 1 (ro r1 1)) r1 2)) r1 3)) r0 4 ((uI (uI (uI ro r0 1 (ro r1 1)) r0 2 ((uI ro r0 1 (ro r1 1)) r1 2)) r0 3 ((uI (uI ro r0 1 (ro r1 1)) r0 2 ((uI ro r0 1 (ro r1 1)) r1 2)) r1 3)) r1 4)) r0 5 ((uI (uI (uI (uI ro r0 1 (ro r1 1)) r0 2 ((uI ro r0 1 (ro r1 1)) r1 2)) r0 3 ((uI (uI ro r0 1 (ro r1 1)) r0 2 ((uI ro r0 1 (ro r1 1)) r1 2)) r1 3)) r0 4 ((uI (uI (uI ro r0 1 (ro r1 1)) r0 2 ((uI ro r0 1 (ro r1 1)) r1 2)) r0 3 ((uI (uI ro r0 1 (ro r1 1)) r0 2 ((uI ro r0 1 (ro r1 1)) r1 2)) r1 3)) r1 4)) r1 5)) r1 6)) r0 7 ((uI (uI (uI (uI (uI (uI ro r0 1 (ro r1 1)) r0 2 ((uI ro r0 1 (ro r1 1)) r1 2)) r0 3 ((uI (uI ro r0 1 (ro r1 1)) r0 2 ((uI ro r0 1 (ro r1 1)) r1 2)) r1 3)) r0 4 ((uI (uI (uI ro r0 1 (ro r1 1)) r0 2 ((uI ro r0 1 (ro r1 1)) r1 2)) r0 3 ((uI (uI ro r0 1 (ro r1 1)) r0 2 ((uI ro r0 1 (ro r1 1)) r1 2)) r1 3)) r1 4)) r0 5 ((uI (uI (uI (uI ro r0 1 (ro r1 1)) r0 2 ((uI ro r0 1 (ro r1 1)) r1 2)) r0 3 ((uI (uI ro r0 1 (ro r1 1)) r0 2 ((uI ro r0 1 (ro r1 1)) r1 2)) r1 3)) r0 4 ((uI (uI (uI ro r0 1 (ro r1 1)) r0 2 ((uI ro r0 1 (ro r1 1)) r1 2)) r0 3 ((uI (uI ro r0 1 (ro r1 1)) r0 2 ((uI ro r0 1 (ro r1 1)) r1 2)) r1 3)) r1 4)) r1 5)) r0 6 ((uI (uI (uI (uI (uI ro r0 1 (ro r1 1)) r0 2 ((uI ro r0 1 (ro r1 1)) r1 2)) r0 3 ((uI (uI ro r0 1 (ro r1 1)) r0 2 ((uI ro r0 1 (ro r1 1)) r1 2)) r1 3)) r0 4 ((uI (uI (uI ro r0 1 (ro r1 1)) r0 2 ((uI ro r0 1 (ro r1 1)) r1 2)) r0 3 ((uI (uI ro r0 1 (ro r1 1)) r0 2 ((uI ro r0 1 (ro r1 1)) r1 2)) r1 3)) r1 4)) r0 5 ((uI (uI (uI (uI ro r0 1 (ro r1 1)) r0 2 ((uI ro r0 1 (ro r1 1)) r1 2)) r0 3 ((uI (uI ro r0 1 (ro r1 1)) r0 2 ((uI ro r0 1 (ro r1 1)) r1 2)) r1 3)) r0 4 ((uI (uI (uI ro r0 1 (ro r1 1)) r0 2 ((uI ro r0 1 (ro r1 1)) r1 2)) r0 3 ((uI (uI ro r0 1 (ro r1 1)) r0 2 ((uI ro r0 1 (ro r1 1)) r1 2)) r1 3)) r1 4)) r1 5)) r1 6)) r1 7)) r0 8 ((uI (uI (uI (uI (uI (uI (uI ro r0 1 (ro r1 1)) r0 2 ((uI ro r0 1 (ro r1 1)) r1 2)) r0 3 ((uI (uI ro r0 1 (ro r1 1)) r0 2 ((uI ro r0 1 (ro r1 1)) r1 2)) r1 3)) r0 4 ((uI (uI (uI ro r0 1 (ro r1 1)) r0 2 ((uI ro r0 1 (ro r1 1)) r1 2)) r0 3 ((uI (uI ro r0 1 (ro r1 1)) r0 2 ((uI ro r0 1 (ro r1 1)) r1 2)) r1 3)) r1 4)) r0 5 ((uI (uI (uI (uI ro r0 1 (ro r1 1)) r0 2 ((uI ro r0 1 (ro r1 1)) r1 2)) r0 3 ((uI (uI ro r0 1 (ro r1 1)) r0 2 ((uI ro r0 1 (ro r1 1)) r1 2)) r1 3)) r0 4 ((uI (uI (uI ro r0 1 (ro r1 1)) r0 2 ((uI ro r0 1 (ro r1 1)) r1 2)) r0 3 ((uI (uI ro r0 1 (ro r1 1)) r0 2 ((uI ro r0 1 (ro r1 1)) r1 2)) r1 3)) r1 4)) r1 5)) r0 6 ((uI (uI (uI (uI (uI ro r0 1 (ro r1 1)) r0 2 ((uI ro r0 1 (ro r1 1)) r1 2)) r0 3 ((uI (uI ro r0 1 (ro r1 1)) r0 2 ((uI ro r0 1 (ro r1 1)) r1 2)) r1 3)) r0 4 ((uI (uI (uI ro r0 1 (ro r1 1)) r0 2 ((uI ro r0 1 (ro r1 1)) r1 2)) r0 3 ((uI (uI ro r0 1 (ro r1 1)) r0 2 ((uI ro r0 1 (ro r1 1)) r1 2)) r1 3)) r1 4)) r0 5 ((uI (uI (uI (uI ro r0 1 (ro r1 1)) r0 2 ((uI ro r0 1 (ro r1 1)) r1 2)) r0 3 ((uI (uI ro r0 1 (ro r1 1)) r0 2 ((uI ro r0 1 (ro r1 1)) r1 2)) r1 3)) r0 4 ((uI (uI (uI ro r0 1 (ro r1 1)) r0 2 ((uI ro r0 1 (ro r1 1)) r1 2)) r0 3 ((uI (uI ro r0 1 (ro r1 1)) r0 2 ((uI ro r0 1 (ro r1 1)) r1 2)) r1 3)) r1 4)) r1 5)) r1 6)) r0 7 ((uI (uI (uI (uI (uI (uI ro r0 1 (ro r1 1)) r0 2 ((uI ro r0 1 (ro r1 1)) r1 2)) r0 3 ((uI (uI ro r0 1 (ro r1 1)) r0 2 ((uI ro r0 1 (ro r1 1)) r1 2)) r1 3)) r0 4 ((uI (uI (uI ro r0 1 (ro r1 1)) r0 2 ((uI ro r0 1 (ro r1 1)) r1 2)) r0 3 ((uI (uI ro r0 1 (ro r1 1)) r0 2 ((uI ro r0 1 (ro r1 1)) r1 2)) r1 3)) r1 4)) r0 5 ((uI (uI (uI (uI ro r0 1 (ro r1 1)) r0 2 ((uI ro r0 1 (ro r1 1)) r1 2)) r0 3 ((uI (uI ro r0 1 (ro r1 1)) r0 2 ((uI ro r0 1 (ro r1 1)) r1 2)) r1 3)) r0 4 ((uI (uI (uI ro r0 1 (ro r1 1)) r0 2 ((uI ro r0 1 (ro r1 1)) r1 2)) r0 3 ((uI (uI ro r0 1 (ro r1 1)) r0 2 ((uI ro r0 1 (ro r1 1)) r1 2)) r1 3)) r1 4)) r1 5)) r0 6 ((uI (uI (uI (uI (uI ro r0 1 (ro r1 1)) r0 2 ((uI ro r0 1 (ro r1 1)) r1 2)) r0 3 ((uI (uI ro r0 1 (ro r1 1)) r0 2 ((uI ro r0 1 (ro r1 1)) r1 2)) r1 3)) r0 4 ((uI (uI (uI ro r0 1 (ro r1 1)) r0 2 ((uI ro r0 1 (ro r1 1)) r1 2)) r0 3 ((uI (uI ro r0 1 (ro r1 1)) r0 2 ((uI ro r0 1 (ro r1 1)) r1 2)) r1 3)) r1 4)) r0 5 ((uI (uI (uI (uI ro r0 1 (ro r1 1)) r0 2 ((uI ro r0 1 (ro r1 1)) r1 2)) r0 3 ((uI (uI ro r0 1 (ro r1 1)) r0 2 ((uI ro r0 1 (ro r1 1)) r1 2)) r1 3)) r0 4 ((uI (uI (uI ro r0 1 (ro r1 1)) r0 2 ((uI ro r0 1 (ro r1 1)) r1 2)) r0 3 ((uI (uI ro r0 1 (ro r1 1)) r0 2 ((uI ro r0 1 (ro r1 1)) r1 2)) r1 3)) r1 4)) r1 5)) r1 6)) r1 7)) r1 8)) r0 9 ((uI (uI (uI (uI (uI (uI (uI (uI ro r0 1 (ro r1 1)) r0 2 ((uI ro r0 1 (ro r1 1)) r1 2)) r0 3 ((uI (uI ro r0 1 (ro r1 1)) r0 2 ((uI ro r0 1 (ro r1 1)) r1 2)) r1 3)) r0 4 ((uI (uI (uI ro r0 1 (ro r1 1)) r0 2 ((uI ro r0 1 (ro r1 1)) r1 2)) r0 3 ((uI (uI ro r0 1 (ro r1 1)) r0 2 ((uI ro r0 1 (ro r1 1)) r1 2)) r1 3)) r1 4)) r0 5 ((uI (uI (uI (uI ro r0 1 (ro r1 1)) r0 2 ((uI ro r0 1 (ro r1 1)) r1 2)) r0 3 ((uI (uI ro r0 1 (ro r1 1)) r0 2 ((uI ro r0 1 (ro r1 1)) r1 2)) r1 3)) r0 4 ((uI (uI (uI ro r0 1 (ro r1 1)) r0 2 ((uI ro r0 1 (ro r1 1)) r1 2)) r0 3 ((uI (uI ro r0 1 (ro r1 1)) r0 2 ((uI ro r0 1 (ro r1 1)) r1 2)) r1 3)) r1 4)) r1 5)) r0 6 ((uI (uI (uI (uI (uI ro r0 1 (ro r1 1)) r0 2 ((uI ro r0 1 (ro r1 1)) r1 2)) r0 3 ((uI (uI ro r0 1 (ro r1 1)) r0 2 ((uI ro r0 1 (ro r1 1)) r1 2)) r1 3)) r0 4 ((uI (uI (uI ro r0 1 (ro r1 1)) r0 2 ((uI ro r0 1 (ro r1 1)) r1 2)) r0 3 ((uI (uI ro r0 1 (ro r1 1)) r0 2 ((uI ro r0 1 (ro r1 1)) r1 2)) r1 3)) r1 4)) r0 5 ((uI (uI (uI (uI ro r0 1 (ro r1 1)) r0 2 ((uI ro r0 1 (ro r1 1)) r1 2)) r0 3 ((uI (uI ro r0 1 (ro r1 1)) r0 2 ((uI ro r0 1 (ro r1 1)) r1 2)) r1 3)) r0 4 ((uI (uI (uI ro r0 1 (ro r1 1)) r0 2 ((uI ro r0 1 (ro r1 1)) r1 2)) r0 3 ((uI (uI ro r0 1 (ro r1 1)) r0 2 ((uI ro r0 1 (ro r1 1)) r1 2)) r1 3)) r1 4)) r1 5)) r1 6)) r0 7 ((uI (uI (uI (uI (uI (uI ro r0 1 (ro r1 1)) r0 2 ((uI ro r0 1 (ro r1 1)) r1 2)) r0 3 ((uI (uI ro r0 1 (ro r1 1)) r0 2 ((uI ro r0 1 (ro r1 1)) r1 2)) r1 3)) r0 4 ((uI (uI (uI ro r0 1 (ro r1 1)) r0 2 ((uI ro r0 1 (ro r1 1)) r1 2)) r0 3 ((uI (uI ro r0 1 (ro r1 1)) r0 2 ((uI ro r0 1 (ro r1 1)) r1 2)) r1 3)) r1 4)) r0 5 ((uI (uI (uI (uI ro r0 1 (ro r1 1)) r0 2 ((uI ro r0 1 (ro r1 1)) r1 2)) r0 3 ((uI (uI ro r0 1 (ro r1 1)) r0 2 ((uI ro r0 1 (ro r1 1)) r1 2)) r1 3)) r0 4 ((uI (uI (uI ro r0 1 (ro r1 1)) r0 2 ((uI ro r0 1 (ro r1 1)) r1 2)) r0 3 ((uI (uI ro r0 1 (ro r1 1)) r0 2 ((uI ro r0 1 (ro r1 1)) r1 2)) r1 3)) r1 4)) r1 5)) r0 6 ((uI (uI (uI (uI (uI ro r0 1 (ro r1 1)) r0 2 ((uI ro r0 1 (ro r1 1)) r1 2)) r0 3 ((uI (uI ro r0 1 (ro r1 1)) r0 2 ((uI ro r0 1 (ro r1 1)) r1 2)) r1 3)) r0 4 ((uI (uI (uI ro r0 1 (ro r1 1)) r0 2 ((uI ro r0 1 (ro r1 1)) r1 2)) r0 3 ((uI (uI ro r0 1 (ro r1 1)) r0 2 ((uI ro r0 1 (ro r1 1)) r1 2)) r1 3)) r1 4)) r0 5 ((uI (uI (uI (uI ro r0 1 (ro r1 1)) r0 2 ((uI ro r0 1 (ro r1 1)) r1 2)) r0 3 ((uI (uI ro r0 1 (ro r1 1)) r0 2 ((uI ro r0 1 (ro r1 1)) r1 2)) r1 3)) r0 4 ((uI (uI (uI ro r0 1 (ro r1 1)) r0 2 ((uI ro r0 1 (ro r1 1)) r1 2)) r0 3 ((uI (uI ro r0 1 (ro r1 1)) r0 2 ((uI ro r0 1 (ro r1 1)) r1 2)) r1 3)) r1 4)) r1 5)) r1 6)) r1 7)) r0 8 ((uI (uI (uI (uI (uI (uI (uI ro r0 1 (ro r1 1)) r0 2 ((uI ro r0 1 (ro r1 1)) r1 2)) r0 3 ((uI (uI ro r0 1 (ro r1 1)) r0 2 ((uI ro r0 1 (ro r1 1)) r1 2)) r1 3)) r0 4 ((uI (uI (uI ro r0 1 (ro r1 1)) r0 2 ((uI ro r0 1 (ro r1 1)) r1 2)) r0 3 ((uI (uI ro r0 1 (ro r1 1)) r0 2 ((uI ro r0 1 (ro r1 1)) r1 2)) r1 3)) r1 4)) r0 5 ((uI (uI (uI (uI ro r0 1 (ro r1 1)) r0 2 ((uI ro r0 1 (ro r1 1)) r1 2)) r0 3 ((uI (uI ro r0 1 (ro r1 1)) r0 2 ((uI ro r0 1 (ro r1 1)) r1 2)) r1 3)) r0 4 ((uI (uI (uI ro r0 1 (ro r1 1)) r0 2 ((uI ro r0 1 (ro r1 1)) r1 2)) r0 3 ((uI (uI ro r0 1 (ro r1 1)) r0 2 ((uI ro r0 1 (ro r1 1)) r1 2)) r1 3)) r1 4)) r1 5)) r0 6 ((uI (uI (uI (uI (uI ro r0 1 (ro r1 1)) r0 2 ((uI ro r0 1 (ro r1 1)) r1 2)) r0 3 ((uI (uI ro r0 1 (ro r1 1)) r0 2 ((uI ro r0 1 (ro r1 1)) r1 2)) r1 3)) r0 4 ((uI (uI (uI ro r0 1 (ro r1 1)) r0 2 ((uI ro r0 1 (ro r1 1)) r1 2)) r0 3 ((uI (uI ro r0 1 (ro r1 1)) r0 2 ((uI ro r0 1 (ro r1 1)) r1 2)) r1 3)) r1 4)) r0 5 ((uI (uI (uI (uI ro r0 1 (ro r1 1)) r0 2 ((uI ro r0 1 (ro r1 1)) r1 2)) r0 3 ((uI (uI ro r0 1 (ro r1 1)) r0 2 ((uI ro r0 1 (ro r1 1)) r1 2)) r1 3)) r0 4 ((uI (uI (uI ro r0 1 (ro r1 1)) r0 2 ((uI ro r0 1 (ro r1 1)) r1 2)) r0 3 ((uI (uI ro r0 1 (ro r1 1)) r0 2 ((uI ro r0 1 (ro r1 1)) r1 2)) r1 3)) r1 4)) r1 5)) r1 6)) r0 7 ((uI (uI (uI (uI (uI (uI ro r0 1 (ro r1 1)) r0 2 ((uI ro r0 1 (ro r1 1)) r1 2)) r0 3 ((uI (uI ro r0 1 (ro r1 1)) r0 2 ((uI ro r0 1 (ro r1 1)) r1 2)) r1 3)) r0 4 ((uI (uI (uI ro r0 1 (ro r1 1)) r0 2 ((uI ro r0 1 (ro r1 1)) r1 2)) r0 3 ((uI (uI ro r0 1 (ro r1 1)) r0 2 ((uI ro r0 1 (ro r1 1)) r1 2)) r1 3)) r1 4)) r0 5 ((uI (uI (uI (uI ro r0 1 (ro r1 1)) r0 2 ((uI ro r0 1 (ro r1 1)) r1 2)) r0 3 ((uI (uI ro r0 1 (ro r1 1)) r0 2 ((uI ro r0 1 (ro r1 1)) r1 2)) r1 3)) r0 4 ((uI (uI (uI ro r0 1 (ro r1 1)) r0 2 ((uI ro r0 1 (ro r1 1)) r1 2)) r0 3 ((uI (uI ro r0 1 (ro r1 1)) r0 2 ((uI ro r0 1 (ro r1 1)) r1 2)) r1 3)) r1 4)) r1 5)) r0 6 ((uI (uI (uI (uI (uI ro r0 1 (ro r1 1)) r0 2 ((uI ro r0 1 (ro r1 1)) r1 2)) r0 3 ((uI (uI ro r0 1 (ro r1 1)) r0 2 ((uI ro r0 1 (ro r1 1)) r1 2)) r1 3)) r0 4 ((uI (uI (uI ro r0 1 (ro r1 1)) r0 2 ((uI ro r0 1 (ro r1 1)) r1 2)) r0 3 ((uI (uI ro r0 1 (ro r1 1)) r0 2 ((uI ro r0 1 (ro r1 1)) r1 2)) r1 3)) r1 4)) r0 5 ((uI (uI (uI (uI ro r0 1 (ro r1 1)) r0 2 ((uI ro r0 1 (ro r1 1)) r1 2)) r0 3 ((uI (uI ro r0 1 (ro r1 1)) r0 2 ((uI ro r0 1 (ro r1 1)) r1 2)) r1 3)) r0 4 ((uI (uI (uI ro r0 1 (ro r1 1)) r0 2 ((uI ro r0 1 (ro r1 1)) r1 2)) r0 3 ((uI (uI ro r0 1 (ro r1 1)) r0 2 ((uI ro r0 1 (ro r1 1)) r1 2)) r1 3)) r1 4)) r1 5)) r1 6)) r1 7)) r1 8)) r1 9))) := by
  refine (wX_in rfl (by decide)).trans ?_
  show wG d 82 (0, [.ref r0, .ref r1], [], mkH E ro) Q = _
  refine (r_aload_n rfl rfl rfl).trans ?_
  refine (r_aload_n rfl rfl rfl).trans ?_
  refine (r_getI (ci := 5) (sl := 1) rfl rfl rfl h1.2.1 h1.1).trans ?_
  refine (r_putI (ci := 5) (sl := 1) rfl rfl rfl h0.2.1 h0.1).trans ?_
  refine (r_aload_n rfl rfl rfl).trans ?_
  refine (r_aload_n rfl rfl rfl).trans ?_
  refine (r_getI (ci := 5) (sl := 2) rfl rfl rfl h1.2.1 h1.1).trans ?_
  refine (r_putI (ci := 5) (sl := 2) rfl rfl rfl h0.2.1 h0.1).trans ?_
  refine (r_aload_n rfl rfl rfl).trans ?_
  refine (r_aload_n rfl rfl rfl).trans ?_
  refine (r_getI (ci := 5) (sl := 3) rfl rfl rfl h1.2.1 h1.1).trans ?_
  refine (r_putI (ci := 5) (sl := 3) rfl rfl rfl h0.2.1 h0.1).trans ?_
  refine (r_aload_n rfl rfl rfl).trans ?_
  refine (r_aload_n rfl rfl rfl).trans ?_
  refine (r_getI (ci := 5) (sl := 4) rfl rfl rfl h1.2.1 h1.1).trans ?_
  refine (r_putI (ci := 5) (sl := 4) rfl rfl rfl h0.2.1 h0.1).trans ?_
  refine (r_aload_n rfl rfl rfl).trans ?_
  refine (r_aload_n rfl rfl rfl).trans ?_
  refine (r_getI (ci := 5) (sl := 5) rfl rfl rfl h1.2.1 h1.1).trans ?_
  refine (r_putI (ci := 5) (sl := 5) rfl rfl rfl h0.2.1 h0.1).trans ?_
  refine (r_aload_n rfl rfl rfl).trans ?_
  refine (r_aload_n rfl rfl rfl).trans ?_
  refine (r_getI (ci := 5) (sl := 6) rfl rfl rfl h1.2.1 h1.1).trans ?_
  refine (r_putI (ci := 5) (sl := 6) rfl rfl rfl h0.2.1 h0.1).trans ?_
  refine (r_aload_n rfl rfl rfl).trans ?_
  refine (r_aload_n rfl rfl rfl).trans ?_
  refine (r_getI (ci := 5) (sl := 7) rfl rfl rfl h1.2.1 h1.1).trans ?_
  refine (r_putI (ci := 5) (sl := 7) rfl rfl rfl h0.2.1 h0.1).trans ?_
  refine (r_aload_n rfl rfl rfl).trans ?_
  refine (r_aload_n rfl rfl rfl).trans ?_
  refine (r_getI (ci := 5) (sl := 8) rfl rfl rfl h1.2.1 h1.1).trans ?_
  refine (r_putI (ci := 5) (sl := 8) rfl rfl rfl h0.2.1 h0.1).trans ?_
  refine (r_aload_n rfl rfl rfl).trans ?_
  refine (r_aload_n rfl rfl rfl).trans ?_
  refine (r_getI (ci := 5) (sl := 9) rfl rfl rfl h1.2.1 h1.1).trans ?_
  refine (r_putI (ci := 5) (sl := 9) rfl rfl rfl h0.2.1 h0.1).trans ?_
  exact r_vret rfl rfl
theorem en_X1_gives {d : Nat} {E : pEv} {ro : Nat → Nat → Int32} {Q : Option Value → pH → Prop} (s_E : oE E) {r0 : Nat} (h0 : oLaw r0) {x1 : Int32} {x2 : Int32} {x3 : Int32} : wX (d + 1) 16 [.ref r0, .int x1, .int x2, .int x3] (mkH E ro) Q = (if (ro r0 0) = 0 then (if (ro (r0 + 3) 1) = 0 then wX d 147 [.int (x1 * 10), .int 0, .int 99] (mkH E ro) (fun v h' => wG d 16 (37, [.ref r0, .int x1, .int x2, .int x3], pv v [], h') Q) else wX d 17 [.ref r0, .int x1, .int x2, .int x3] (mkH E ro) (fun v h' => wG d 16 (31, [.ref r0, .int x1, .int x2, .int x3], pv v [], h') Q)) else (if (ro (r0 + 3) 1) = 0 then wX d 147 [.int ((100 - x1) - (x2 * 5)), .int (-999), .int 999] (mkH E ro) (fun v h' => wG d 16 (75, [.ref r0, .int x1, .int x2, .int x3], pv v [], h') Q) else wX d 17 [.ref r0, .int x1, .int x2, .int x3] (mkH E ro) (fun v h' => wG d 16 (66, [.ref r0, .int x1, .int x2, .int x3], pv v [], h') Q))) := by
  refine (wX_in rfl (by decide)).trans ?_
  show wG d 16 (0, [.ref r0, .int x1, .int x2, .int x3], [], mkH E ro) Q = _
  refine (r_aload_n rfl rfl rfl).trans ?_
  refine (r_getI (ci := 1) (sl := 0) rfl rfl rfl h0.2.1 h0.1).trans ?_
  refine (r_if_ne rfl rfl rfl).trans ?_
  refine ite_congr rfl (fun h_0 => ?_) (fun h_0 => ?_)
  · refine (r_aload_n rfl rfl rfl).trans ?_
    refine (r_getR (ci := 1) (sl := 2) s_E rfl rfl rfl h0.2.1 h0.1 h0.2.2.2.1 (n81 h0.2.1 (by decide))).trans ?_
    refine (r_getI (ci := 4) (sl := 1) rfl rfl rfl h0.2.2.2.2.2.2.1 h0.2.2.2.2.2.1).trans ?_
    refine (r_if_ne rfl rfl rfl).trans ?_
    refine ite_congr rfl (fun h_1 => ?_) (fun h_1 => ?_)
    · refine (r_iload_n rfl rfl rfl).trans ?_
      refine (r_bipush (v := 10) rfl rfl rfl).trans ?_
      refine (r_imul rfl rfl).trans ?_
      refine (r_goto rfl rfl).trans ?_
      refine (r_iconst (v := 0) rfl rfl rfl).trans ?_
      refine (r_bipush (v := 99) rfl rfl rfl).trans ?_
      exact r_ins (m := 147) rfl rfl rfl rfl rfl rfl
    · refine (r_aload_n rfl rfl rfl).trans ?_
      refine (r_iload_n rfl rfl rfl).trans ?_
      refine (r_iload_n rfl rfl rfl).trans ?_
      refine (r_iload_n rfl rfl rfl).trans ?_
      exact r_inv (m := 17) (c := 1) rfl rfl rfl rfl rfl rfl h0.2.1 rfl
  · refine (r_aload_n rfl rfl rfl).trans ?_
    refine (r_getR (ci := 1) (sl := 2) s_E rfl rfl rfl h0.2.1 h0.1 h0.2.2.2.1 (n81 h0.2.1 (by decide))).trans ?_
    refine (r_getI (ci := 4) (sl := 1) rfl rfl rfl h0.2.2.2.2.2.2.1 h0.2.2.2.2.2.1).trans ?_
    refine (r_if_ne rfl rfl rfl).trans ?_
    refine ite_congr rfl (fun h_1 => ?_) (fun h_1 => ?_)
    · refine (r_bipush (v := 100) rfl rfl rfl).trans ?_
      refine (r_iload_n rfl rfl rfl).trans ?_
      refine (r_isub rfl rfl).trans ?_
      refine (r_iload_n rfl rfl rfl).trans ?_
      refine (r_iconst (v := 5) rfl rfl rfl).trans ?_
      refine (r_imul rfl rfl).trans ?_
      refine (r_isub rfl rfl).trans ?_
      refine (r_goto rfl rfl).trans ?_
      refine (r_sipush (v := (-999)) rfl rfl rfl).trans ?_
      refine (r_sipush (v := 999) rfl rfl rfl).trans ?_
      exact r_ins (m := 147) rfl rfl rfl rfl rfl rfl
    · refine (r_aload_n rfl rfl rfl).trans ?_
      refine (r_iload_n rfl rfl rfl).trans ?_
      refine (r_iload_n rfl rfl rfl).trans ?_
      refine (r_iload_n rfl rfl rfl).trans ?_
      exact r_inv (m := 17) (c := 1) rfl rfl rfl rfl rfl rfl h0.2.1 rfl

theorem sg_X1_gives_31 {d : Nat} {E : pEv} {ro : Nat → Nat → Int32} {Q : Option Value → pH → Prop} (s_E : oE E) {r0 : Nat} (h0 : oLaw r0) {x1 : Int32} {x2 : Int32} {x3 : Int32} {xs0 : Int32} : wG d 16 (31, [.ref r0, .int x1, .int x2, .int x3], [.int xs0], mkH E ro) Q = wX d 147 [.int xs0, .int 0, .int 99] (mkH E ro) (fun v h' => wG d 16 (37, [.ref r0, .int x1, .int x2, .int x3], pv v [], h') Q) := by
  refine (r_iconst (v := 0) rfl rfl rfl).trans ?_
  refine (r_bipush (v := 99) rfl rfl rfl).trans ?_
  exact r_ins (m := 147) rfl rfl rfl rfl rfl rfl

theorem sg_X1_gives_37 {d : Nat} {E : pEv} {ro : Nat → Nat → Int32} {Q : Option Value → pH → Prop} (s_E : oE E) {r0 : Nat} (h0 : oLaw r0) {x1 : Int32} {x2 : Int32} {x3 : Int32} {xs0 : Int32} : wG d 16 (37, [.ref r0, .int x1, .int x2, .int x3], [.int xs0], mkH E ro) Q = Q (some (.int xs0)) (mkH E ro) := by
  exact r_iret rfl rfl

theorem sg_X1_gives_66 {d : Nat} {E : pEv} {ro : Nat → Nat → Int32} {Q : Option Value → pH → Prop} (s_E : oE E) {r0 : Nat} (h0 : oLaw r0) {x1 : Int32} {x2 : Int32} {x3 : Int32} {xs0 : Int32} : wG d 16 (66, [.ref r0, .int x1, .int x2, .int x3], [.int xs0], mkH E ro) Q = wX d 147 [.int xs0, .int (-999), .int 999] (mkH E ro) (fun v h' => wG d 16 (75, [.ref r0, .int x1, .int x2, .int x3], pv v [], h') Q) := by
  refine (r_sipush (v := (-999)) rfl rfl rfl).trans ?_
  refine (r_sipush (v := 999) rfl rfl rfl).trans ?_
  exact r_ins (m := 147) rfl rfl rfl rfl rfl rfl

theorem sg_X1_gives_75 {d : Nat} {E : pEv} {ro : Nat → Nat → Int32} {Q : Option Value → pH → Prop} (s_E : oE E) {r0 : Nat} (h0 : oLaw r0) {x1 : Int32} {x2 : Int32} {x3 : Int32} {xs0 : Int32} : wG d 16 (75, [.ref r0, .int x1, .int x2, .int x3], [.int xs0], mkH E ro) Q = Q (some (.int xs0)) (mkH E ro) := by
  exact r_iret rfl rfl

theorem en_X1_worth {d : Nat} {E : pEv} {ro : Nat → Nat → Int32} {Q : Option Value → pH → Prop} (s_E : oE E) {r0 : Nat} (h0 : oLaw r0) {x1 : Int32} {x2 : Int32} {x3 : Int32} : wX (d + 1) 17 [.ref r0, .int x1, .int x2, .int x3] (mkH E ro) Q = wX d 66 [.ref (r0 + 1)] (mkH E ro) (fun v h' => wG d 17 (7, [.ref r0, .int x1, .int x2, .int x3, .retAddr 0, .retAddr 0, .retAddr 0], pv v [], h') Q) := by
  refine (wX_in rfl (by decide)).trans ?_
  show wG d 17 (0, [.ref r0, .int x1, .int x2, .int x3, .retAddr 0, .retAddr 0, .retAddr 0], [], mkH E ro) Q = _
  refine (r_aload_n rfl rfl rfl).trans ?_
  refine (r_getR (ci := 1) (sl := 1) s_E rfl rfl rfl h0.2.1 h0.1 h0.2.2.1 (n81 h0.2.1 (by decide))).trans ?_
  exact r_inv (m := 66) (c := 4) rfl rfl rfl rfl rfl rfl h0.2.2.2.2.1.2.1 rfl

theorem sg_X1_worth_7 {d : Nat} {E : pEv} {ro : Nat → Nat → Int32} {Q : Option Value → pH → Prop} (s_E : oE E) {r0 : Nat} (h0 : oLaw r0) {x1 : Int32} {x2 : Int32} {x3 : Int32} {v4 : Value} {v5 : Value} {v6 : Value} : wG d 17 (7, [.ref r0, .int x1, .int x2, .int x3, v4, v5, v6], [], mkH E ro) Q = wG d 17 (10, [.ref r0, .int x1, .int x2, .int x3, .int 0, v5, v6], [], mkH E ro) Q := by
  refine (r_iconst (v := 0) rfl rfl rfl).trans ?_
  refine (r_istore rfl rfl rfl rfl).trans ?_
  exact rfl

theorem sg_X1_worth_10 {d : Nat} {E : pEv} {ro : Nat → Nat → Int32} {Q : Option Value → pH → Prop} (s_E : oE E) {r0 : Nat} (h0 : oLaw r0) {x1 : Int32} {x2 : Int32} {x3 : Int32} {x4 : Int32} {v5 : Value} {v6 : Value} : wG d 17 (10, [.ref r0, .int x1, .int x2, .int x3, .int x4, v5, v6], [], mkH E ro) Q = (if x4 < (ro (r0 + 3) 1) then wX d 57 [.ref (r0 + 3), .int x4] (mkH E ro) (fun v h' => wG d 17 (31, [.ref r0, .int x1, .int x2, .int x3, .int x4, v5, v6], pv v [], h') Q) else wX d 60 [.ref (r0 + 1)] (mkH E ro) (fun v h' => wG d 17 (153, [.ref r0, .int x1, .int x2, .int x3, .int x4, v5, v6], pv v [], h') Q)) := by
  refine (r_iload rfl rfl rfl).trans ?_
  refine (r_aload_n rfl rfl rfl).trans ?_
  refine (r_getR (ci := 1) (sl := 2) s_E rfl rfl rfl h0.2.1 h0.1 h0.2.2.2.1 (n81 h0.2.1 (by decide))).trans ?_
  refine (r_getI (ci := 4) (sl := 1) rfl rfl rfl h0.2.2.2.2.2.2.1 h0.2.2.2.2.2.1).trans ?_
  refine (r_icmp_ge rfl rfl rfl).trans ?_
  refine ite_congr rfl (fun h_0 => ?_) (fun h_0 => ?_)
  · refine (r_aload_n rfl rfl rfl).trans ?_
    refine (r_getR (ci := 1) (sl := 2) s_E rfl rfl rfl h0.2.1 h0.1 h0.2.2.2.1 (n81 h0.2.1 (by decide))).trans ?_
    refine (r_iload rfl rfl rfl).trans ?_
    exact r_inv (m := 57) (c := 4) rfl rfl rfl rfl rfl rfl h0.2.2.2.2.2.2.1 rfl
  · refine (r_aload_n rfl rfl rfl).trans ?_
    refine (r_getR (ci := 1) (sl := 1) s_E rfl rfl rfl h0.2.1 h0.1 h0.2.2.1 (n81 h0.2.1 (by decide))).trans ?_
    exact r_inv (m := 60) (c := 4) rfl rfl rfl rfl rfl rfl h0.2.2.2.2.1.2.1 rfl

theorem sg_X1_worth_31 {d : Nat} {E : pEv} {ro : Nat → Nat → Int32} {Q : Option Value → pH → Prop} (s_E : oE E) {r0 : Nat} (h0 : oLaw r0) {x1 : Int32} {x2 : Int32} {x3 : Int32} {x4 : Int32} {v5 : Value} {v6 : Value} {xs0 : Int32} : wG d 17 (31, [.ref r0, .int x1, .int x2, .int x3, .int x4, v5, v6], [.int xs0], mkH E ro) Q = (if xs0 < 0 then (if xs0 < (-3) then wX d 60 [.ref (r0 + 1)] (mkH E ro) (fun v h' => wG d 17 (96, [.ref r0, .int x1, .int x2, .int x3, .int x4, .int xs0, v6], pv v [], h') Q) else (if xs0 = (-1) then wX d 59 [.ref (r0 + 1), .int x1] (mkH E ro) (fun v h' => wG d 17 (86, [.ref r0, .int x1, .int x2, .int x3, .int x4, .int xs0, v6], pv v [], h') Q) else (if xs0 = (-2) then wX d 59 [.ref (r0 + 1), .int x2] (mkH E ro) (fun v h' => wG d 17 (86, [.ref r0, .int x1, .int x2, .int x3, .int x4, .int xs0, v6], pv v [], h') Q) else wX d 59 [.ref (r0 + 1), .int x3] (mkH E ro) (fun v h' => wG d 17 (86, [.ref r0, .int x1, .int x2, .int x3, .int x4, .int xs0, v6], pv v [], h') Q)))) else wX d 59 [.ref (r0 + 1), .int xs0] (mkH E ro) (fun v h' => wG d 17 (47, [.ref r0, .int x1, .int x2, .int x3, .int x4, .int xs0, v6], pv v [], h') Q)) := by
  refine (r_istore rfl rfl rfl rfl).trans ?_
  refine (r_iload rfl rfl rfl).trans ?_
  refine (r_if_lt rfl rfl rfl).trans ?_
  refine ite_congr rfl (fun h_0 => ?_) (fun h_0 => ?_)
  · refine (r_iload rfl rfl rfl).trans ?_
    refine (r_bipush (v := (-3)) rfl rfl rfl).trans ?_
    refine (r_icmp_lt rfl rfl rfl).trans ?_
    refine ite_congr rfl (fun h_1 => ?_) (fun h_1 => ?_)
    · refine (r_aload_n rfl rfl rfl).trans ?_
      refine (r_getR (ci := 1) (sl := 1) s_E rfl rfl rfl h0.2.1 h0.1 h0.2.2.1 (n81 h0.2.1 (by decide))).trans ?_
      exact r_inv (m := 60) (c := 4) rfl rfl rfl rfl rfl rfl h0.2.2.2.2.1.2.1 rfl
    · refine (r_aload_n rfl rfl rfl).trans ?_
      refine (r_getR (ci := 1) (sl := 1) s_E rfl rfl rfl h0.2.1 h0.1 h0.2.2.1 (n81 h0.2.1 (by decide))).trans ?_
      refine (r_iload rfl rfl rfl).trans ?_
      refine (r_iconst (v := (-1)) rfl rfl rfl).trans ?_
      refine (r_icmp_ne rfl rfl rfl).trans ?_
      refine ite_congr rfl (fun h_2 => ?_) (fun h_2 => ?_)
      · refine (r_iload_n rfl rfl rfl).trans ?_
        refine (r_goto rfl rfl).trans ?_
        exact r_inv (m := 59) (c := 4) rfl rfl rfl rfl rfl rfl h0.2.2.2.2.1.2.1 rfl
      · refine (r_iload rfl rfl rfl).trans ?_
        refine (r_bipush (v := (-2)) rfl rfl rfl).trans ?_
        refine (r_icmp_ne rfl rfl rfl).trans ?_
        refine ite_congr rfl (fun h_3 => ?_) (fun h_3 => ?_)
        · refine (r_iload_n rfl rfl rfl).trans ?_
          refine (r_goto rfl rfl).trans ?_
          exact r_inv (m := 59) (c := 4) rfl rfl rfl rfl rfl rfl h0.2.2.2.2.1.2.1 rfl
        · refine (r_iload_n rfl rfl rfl).trans ?_
          exact r_inv (m := 59) (c := 4) rfl rfl rfl rfl rfl rfl h0.2.2.2.2.1.2.1 rfl
  · refine (r_aload_n rfl rfl rfl).trans ?_
    refine (r_getR (ci := 1) (sl := 1) s_E rfl rfl rfl h0.2.1 h0.1 h0.2.2.1 (n81 h0.2.1 (by decide))).trans ?_
    refine (r_iload rfl rfl rfl).trans ?_
    exact r_inv (m := 59) (c := 4) rfl rfl rfl rfl rfl rfl h0.2.2.2.2.1.2.1 rfl

theorem sg_X1_worth_47 {d : Nat} {E : pEv} {ro : Nat → Nat → Int32} {Q : Option Value → pH → Prop} (s_E : oE E) {r0 : Nat} (h0 : oLaw r0) {x1 : Int32} {x2 : Int32} {x3 : Int32} {x4 : Int32} {x5 : Int32} {v6 : Value} : wG d 17 (47, [.ref r0, .int x1, .int x2, .int x3, .int x4, .int x5, v6], [], mkH E ro) Q = wG d 17 (10, [.ref r0, .int x1, .int x2, .int x3, .int (x4 + 1), .int x5, v6], [], mkH E ro) Q := by
  refine (r_goto rfl rfl).trans ?_
  refine (r_iinc (y := 1) rfl rfl rfl rfl rfl rfl).trans ?_
  refine (r_goto rfl rfl).trans ?_
  exact rfl

theorem sg_X1_worth_86 {d : Nat} {E : pEv} {ro : Nat → Nat → Int32} {Q : Option Value → pH → Prop} (s_E : oE E) {r0 : Nat} (h0 : oLaw r0) {x1 : Int32} {x2 : Int32} {x3 : Int32} {x4 : Int32} {x5 : Int32} {v6 : Value} : wG d 17 (86, [.ref r0, .int x1, .int x2, .int x3, .int x4, .int x5, v6], [], mkH E ro) Q = wG d 17 (10, [.ref r0, .int x1, .int x2, .int x3, .int (x4 + 1), .int x5, v6], [], mkH E ro) Q := by
  refine (r_goto rfl rfl).trans ?_
  refine (r_iinc (y := 1) rfl rfl rfl rfl rfl rfl).trans ?_
  refine (r_goto rfl rfl).trans ?_
  exact rfl

theorem sg_X1_worth_96 {d : Nat} {E : pEv} {ro : Nat → Nat → Int32} {Q : Option Value → pH → Prop} (s_E : oE E) {r0 : Nat} (h0 : oLaw r0) {x1 : Int32} {x2 : Int32} {x3 : Int32} {x4 : Int32} {x5 : Int32} {v6 : Value} {xs0 : Int32} : wG d 17 (96, [.ref r0, .int x1, .int x2, .int x3, .int x4, .int x5, v6], [.int xs0], mkH E ro) Q = (if x5 = (-33) then (if xs0 = 0 then wX d 59 [.ref (r0 + 1), .int 1] (mkH E ro) (fun v h' => wG d 17 (140, [.ref r0, .int x1, .int x2, .int x3, .int x4, .int x5, .int xs0], pv v [], h') Q) else wX d 59 [.ref (r0 + 1), .int 0] (mkH E ro) (fun v h' => wG d 17 (140, [.ref r0, .int x1, .int x2, .int x3, .int x4, .int x5, .int xs0], pv v [], h') Q)) else wX d 60 [.ref (r0 + 1)] (mkH E ro) (fun v h' => wG d 17 (132, [.ref r0, .int x1, .int x2, .int x3, .int x4, .int x5, .int xs0], pv v [.int (-x5), .ref (r0 + 1)], h') Q)) := by
  refine (r_istore rfl rfl rfl rfl).trans ?_
  refine (r_aload_n rfl rfl rfl).trans ?_
  refine (r_getR (ci := 1) (sl := 1) s_E rfl rfl rfl h0.2.1 h0.1 h0.2.2.1 (n81 h0.2.1 (by decide))).trans ?_
  refine (r_iload rfl rfl rfl).trans ?_
  refine (r_bipush (v := (-33)) rfl rfl rfl).trans ?_
  refine (r_icmp_ne rfl rfl rfl).trans ?_
  refine ite_congr rfl (fun h_0 => ?_) (fun h_0 => ?_)
  · refine (r_iload rfl rfl rfl).trans ?_
    refine (r_if_ne rfl rfl rfl).trans ?_
    refine ite_congr rfl (fun h_1 => ?_) (fun h_1 => ?_)
    · refine (r_iconst (v := 1) rfl rfl rfl).trans ?_
      refine (r_goto rfl rfl).trans ?_
      exact r_inv (m := 59) (c := 4) rfl rfl rfl rfl rfl rfl h0.2.2.2.2.1.2.1 rfl
    · refine (r_iconst (v := 0) rfl rfl rfl).trans ?_
      refine (r_goto rfl rfl).trans ?_
      exact r_inv (m := 59) (c := 4) rfl rfl rfl rfl rfl rfl h0.2.2.2.2.1.2.1 rfl
  · refine (r_iload rfl rfl rfl).trans ?_
    refine (r_ineg rfl rfl).trans ?_
    refine (r_aload_n rfl rfl rfl).trans ?_
    refine (r_getR (ci := 1) (sl := 1) s_E rfl rfl rfl h0.2.1 h0.1 h0.2.2.1 (n81 h0.2.1 (by decide))).trans ?_
    exact r_inv (m := 60) (c := 4) rfl rfl rfl rfl rfl rfl h0.2.2.2.2.1.2.1 rfl

theorem sg_X1_worth_132 {d : Nat} {E : pEv} {ro : Nat → Nat → Int32} {Q : Option Value → pH → Prop} (s_E : oE E) {r0 : Nat} (h0 : oLaw r0) {x1 : Int32} {x2 : Int32} {x3 : Int32} {x4 : Int32} {x5 : Int32} {x6 : Int32} {rs0 c_hs0 : Nat} (hs0 : oRow rs0 c_hs0) {xs1 : Int32} {xs2 : Int32} : wG d 17 (132, [.ref r0, .int x1, .int x2, .int x3, .int x4, .int x5, .int x6], [.int xs2, .int xs1, .ref rs0], mkH E ro) Q = wX d 18 [.int xs1, .int xs2, .int x6] (mkH E ro) (fun v h' => wG d 17 (137, [.ref r0, .int x1, .int x2, .int x3, .int x4, .int x5, .int x6], pv v [.ref rs0], h') Q) := by
  refine (r_iload rfl rfl rfl).trans ?_
  exact r_ins (m := 18) rfl rfl rfl rfl rfl rfl

theorem sg_X1_worth_137 {d : Nat} {E : pEv} {ro : Nat → Nat → Int32} {Q : Option Value → pH → Prop} (s_E : oE E) {r0 : Nat} (h0 : oLaw r0) {x1 : Int32} {x2 : Int32} {x3 : Int32} {x4 : Int32} {x5 : Int32} {x6 : Int32} {rs0 c_hs0 : Nat} (hs0 : oRow rs0 c_hs0) {xs1 : Int32} : wG d 17 (137, [.ref r0, .int x1, .int x2, .int x3, .int x4, .int x5, .int x6], [.int xs1, .ref rs0], mkH E ro) Q = wX d 59 [.ref rs0, .int xs1] (mkH E ro) (fun v h' => wG d 17 (140, [.ref r0, .int x1, .int x2, .int x3, .int x4, .int x5, .int x6], pv v [], h') Q) := by
  exact r_inv (m := 59) (c := 4) rfl rfl rfl rfl rfl rfl hs0.2.1 rfl

theorem sg_X1_worth_140 {d : Nat} {E : pEv} {ro : Nat → Nat → Int32} {Q : Option Value → pH → Prop} (s_E : oE E) {r0 : Nat} (h0 : oLaw r0) {x1 : Int32} {x2 : Int32} {x3 : Int32} {x4 : Int32} {x5 : Int32} {v6 : Value} : wG d 17 (140, [.ref r0, .int x1, .int x2, .int x3, .int x4, .int x5, v6], [], mkH E ro) Q = wG d 17 (10, [.ref r0, .int x1, .int x2, .int x3, .int (x4 + 1), .int x5, v6], [], mkH E ro) Q := by
  refine (r_iinc (y := 1) rfl rfl rfl rfl rfl rfl).trans ?_
  refine (r_goto rfl rfl).trans ?_
  exact rfl

theorem sg_X1_worth_153 {d : Nat} {E : pEv} {ro : Nat → Nat → Int32} {Q : Option Value → pH → Prop} (s_E : oE E) {r0 : Nat} (h0 : oLaw r0) {x1 : Int32} {x2 : Int32} {x3 : Int32} {x4 : Int32} {v5 : Value} {v6 : Value} {xs0 : Int32} : wG d 17 (153, [.ref r0, .int x1, .int x2, .int x3, .int x4, v5, v6], [.int xs0], mkH E ro) Q = Q (some (.int xs0)) (mkH E ro) := by
  exact r_iret rfl rfl

theorem en_X1_joined {d : Nat} {E : pEv} {ro : Nat → Nat → Int32} {Q : Option Value → pH → Prop} (s_E : oE E) {x0 : Int32} {x1 : Int32} {x2 : Int32} : wX (d + 1) 18 [.int x0, .int x1, .int x2] (mkH E ro) Q = (if x0 = 38 then (if x1 = 0 then Q (some (.int 0)) (mkH E ro) else (if x2 = 0 then Q (some (.int 0)) (mkH E ro) else Q (some (.int 1)) (mkH E ro))) else (if x0 = 42 then Q (some (.int (x1 * x2))) (mkH E ro) else (if x0 = 43 then Q (some (.int (x1 + x2))) (mkH E ro) else (if x0 = 45 then Q (some (.int (x1 - x2))) (mkH E ro) else (if x0 = 47 then (if x2 = 0 then Q (some (.int 0)) (mkH E ro) else Q (some (.int (x1 / x2))) (mkH E ro)) else (if x0 = 60 then (if x1 < x2 then Q (some (.int 1)) (mkH E ro) else Q (some (.int 0)) (mkH E ro)) else (if x0 = 61 then (if x1 = x2 then Q (some (.int 1)) (mkH E ro) else Q (some (.int 0)) (mkH E ro)) else (if x0 = 62 then (if x2 < x1 then Q (some (.int 1)) (mkH E ro) else Q (some (.int 0)) (mkH E ro)) else (if x0 = 124 then (if x1 = 0 then (if x2 = 0 then Q (some (.int 0)) (mkH E ro) else Q (some (.int 1)) (mkH E ro)) else Q (some (.int 1)) (mkH E ro)) else (if x2 = 0 then Q (some (.int 0)) (mkH E ro) else Q (some (.int (x1 - x1 / x2 * x2))) (mkH E ro))))))))))) := by
  refine (wX_in rfl (by decide)).trans ?_
  show wG d 18 (0, [.int x0, .int x1, .int x2], [], mkH E ro) Q = _
  refine (r_iload_n rfl rfl rfl).trans ?_
  refine (r_lk rfl rfl).trans ?_
  refine (r_swc (y := 38) rfl).trans ?_
  refine ite_congr rfl (fun h_0 => ?_) (fun h_0 => ?_)
  · refine (r_iload_n rfl rfl rfl).trans ?_
    refine (r_if_eq rfl rfl rfl).trans ?_
    refine ite_congr rfl (fun h_1 => ?_) (fun h_1 => ?_)
    · refine (r_iconst (v := 0) rfl rfl rfl).trans ?_
      exact r_iret rfl rfl
    · refine (r_iload_n rfl rfl rfl).trans ?_
      refine (r_if_eq rfl rfl rfl).trans ?_
      refine ite_congr rfl (fun h_2 => ?_) (fun h_2 => ?_)
      · refine (r_iconst (v := 0) rfl rfl rfl).trans ?_
        exact r_iret rfl rfl
      · refine (r_iconst (v := 1) rfl rfl rfl).trans ?_
        refine (r_goto rfl rfl).trans ?_
        exact r_iret rfl rfl
  · refine (r_swc (y := 42) rfl).trans ?_
    refine ite_congr rfl (fun h_1 => ?_) (fun h_1 => ?_)
    · refine (r_iload_n rfl rfl rfl).trans ?_
      refine (r_iload_n rfl rfl rfl).trans ?_
      refine (r_imul rfl rfl).trans ?_
      exact r_iret rfl rfl
    · refine (r_swc (y := 43) rfl).trans ?_
      refine ite_congr rfl (fun h_2 => ?_) (fun h_2 => ?_)
      · refine (r_iload_n rfl rfl rfl).trans ?_
        refine (r_iload_n rfl rfl rfl).trans ?_
        refine (r_iadd rfl rfl).trans ?_
        exact r_iret rfl rfl
      · refine (r_swc (y := 45) rfl).trans ?_
        refine ite_congr rfl (fun h_3 => ?_) (fun h_3 => ?_)
        · refine (r_iload_n rfl rfl rfl).trans ?_
          refine (r_iload_n rfl rfl rfl).trans ?_
          refine (r_isub rfl rfl).trans ?_
          exact r_iret rfl rfl
        · refine (r_swc (y := 47) rfl).trans ?_
          refine ite_congr rfl (fun h_4 => ?_) (fun h_4 => ?_)
          · refine (r_iload_n rfl rfl rfl).trans ?_
            refine (r_if_ne rfl rfl rfl).trans ?_
            refine ite_congr rfl (fun h_5 => ?_) (fun h_5 => ?_)
            · refine (r_iconst (v := 0) rfl rfl rfl).trans ?_
              refine (r_goto rfl rfl).trans ?_
              exact r_iret rfl rfl
            · refine (r_iload_n rfl rfl rfl).trans ?_
              refine (r_iload_n rfl rfl rfl).trans ?_
              refine (r_idiv rfl rfl h_5).trans ?_
              exact r_iret rfl rfl
          · refine (r_swc (y := 60) rfl).trans ?_
            refine ite_congr rfl (fun h_5 => ?_) (fun h_5 => ?_)
            · refine (r_iload_n rfl rfl rfl).trans ?_
              refine (r_iload_n rfl rfl rfl).trans ?_
              refine (r_icmp_ge rfl rfl rfl).trans ?_
              refine ite_congr rfl (fun h_6 => ?_) (fun h_6 => ?_)
              · refine (r_iconst (v := 1) rfl rfl rfl).trans ?_
                refine (r_goto rfl rfl).trans ?_
                exact r_iret rfl rfl
              · refine (r_iconst (v := 0) rfl rfl rfl).trans ?_
                exact r_iret rfl rfl
            · refine (r_swc (y := 61) rfl).trans ?_
              refine ite_congr rfl (fun h_6 => ?_) (fun h_6 => ?_)
              · refine (r_iload_n rfl rfl rfl).trans ?_
                refine (r_iload_n rfl rfl rfl).trans ?_
                refine (r_icmp_ne rfl rfl rfl).trans ?_
                refine ite_congr rfl (fun h_7 => ?_) (fun h_7 => ?_)
                · refine (r_iconst (v := 1) rfl rfl rfl).trans ?_
                  refine (r_goto rfl rfl).trans ?_
                  exact r_iret rfl rfl
                · refine (r_iconst (v := 0) rfl rfl rfl).trans ?_
                  exact r_iret rfl rfl
              · refine (r_swc (y := 62) rfl).trans ?_
                refine ite_congr rfl (fun h_7 => ?_) (fun h_7 => ?_)
                · refine (r_iload_n rfl rfl rfl).trans ?_
                  refine (r_iload_n rfl rfl rfl).trans ?_
                  refine (r_icmp_le rfl rfl rfl).trans ?_
                  refine ite_congr rfl (fun h_8 => ?_) (fun h_8 => ?_)
                  · refine (r_iconst (v := 1) rfl rfl rfl).trans ?_
                    refine (r_goto rfl rfl).trans ?_
                    exact r_iret rfl rfl
                  · refine (r_iconst (v := 0) rfl rfl rfl).trans ?_
                    exact r_iret rfl rfl
                · refine (r_swc (y := 124) rfl).trans ?_
                  refine ite_congr rfl (fun h_8 => ?_) (fun h_8 => ?_)
                  · refine (r_iload_n rfl rfl rfl).trans ?_
                    refine (r_if_ne rfl rfl rfl).trans ?_
                    refine ite_congr rfl (fun h_9 => ?_) (fun h_9 => ?_)
                    · refine (r_iload_n rfl rfl rfl).trans ?_
                      refine (r_if_eq rfl rfl rfl).trans ?_
                      refine ite_congr rfl (fun h_10 => ?_) (fun h_10 => ?_)
                      · refine (r_iconst (v := 0) rfl rfl rfl).trans ?_
                        exact r_iret rfl rfl
                      · refine (r_iconst (v := 1) rfl rfl rfl).trans ?_
                        refine (r_goto rfl rfl).trans ?_
                        exact r_iret rfl rfl
                    · refine (r_iconst (v := 1) rfl rfl rfl).trans ?_
                      refine (r_goto rfl rfl).trans ?_
                      exact r_iret rfl rfl
                  · refine r_swn.trans ?_
                    refine (r_iload_n rfl rfl rfl).trans ?_
                    refine (r_if_ne rfl rfl rfl).trans ?_
                    refine ite_congr rfl (fun h_9 => ?_) (fun h_9 => ?_)
                    · refine (r_iconst (v := 0) rfl rfl rfl).trans ?_
                      refine (r_goto rfl rfl).trans ?_
                      exact r_iret rfl rfl
                    · refine (r_iload_n rfl rfl rfl).trans ?_
                      refine (r_iload_n rfl rfl rfl).trans ?_
                      refine (r_irem rfl rfl h_9).trans ?_
                      exact r_iret rfl rfl
theorem en_X6_lay {d : Nat} {E : pEv} {ro : Nat → Nat → Int32} {Q : Option Value → pH → Prop} (s_E : oE E) {r0 : Nat} (h0 : oSheet r0) {x1 : Int32} {x2 : Int32} : wX (d + 1) 84 [.ref r0, .int x1, .int x2] (mkH E ro) Q = (if x1 = 0 then wX d 67 [.ref (r0 + 1), .int 0] (mkH E (uI ro r0 1 x1)) (fun v h' => wG d 84 (21, [.ref r0, .int x1, .int x2], pv v [], h') Q) else wX d 67 [.ref (r0 + 1), .int x2] (mkH E (uI ro r0 1 x1)) (fun v h' => wG d 84 (21, [.ref r0, .int x1, .int x2], pv v [], h') Q)) := by
  refine (wX_in rfl (by decide)).trans ?_
  show wG d 84 (0, [.ref r0, .int x1, .int x2], [], mkH E ro) Q = _
  refine (r_aload_n rfl rfl rfl).trans ?_
  refine (r_iload_n rfl rfl rfl).trans ?_
  refine (r_putI (ci := 6) (sl := 1) rfl rfl rfl h0.2.1 h0.1).trans ?_
  refine (r_aload_n rfl rfl rfl).trans ?_
  refine (r_getR (ci := 6) (sl := 0) s_E rfl rfl rfl h0.2.1 h0.1 h0.2.2.1 (n81 h0.2.1 (by decide))).trans ?_
  refine (r_iload_n rfl rfl rfl).trans ?_
  refine (r_if_ne rfl rfl rfl).trans ?_
  refine ite_congr rfl (fun h_0 => ?_) (fun h_0 => ?_)
  · refine (r_iconst (v := 0) rfl rfl rfl).trans ?_
    refine (r_goto rfl rfl).trans ?_
    exact r_inv (m := 67) (c := 4) rfl rfl rfl rfl rfl rfl h0.2.2.2.2.1 rfl
  · refine (r_iload_n rfl rfl rfl).trans ?_
    exact r_inv (m := 67) (c := 4) rfl rfl rfl rfl rfl rfl h0.2.2.2.2.1 rfl

theorem sg_X6_lay_21 {d : Nat} {E : pEv} {ro : Nat → Nat → Int32} {Q : Option Value → pH → Prop} (s_E : oE E) {r0 : Nat} (h0 : oSheet r0) {x1 : Int32} {x2 : Int32} : wG d 84 (21, [.ref r0, .int x1, .int x2], [], mkH E ro) Q = Q none (mkH E ro) := by
  exact r_vret rfl rfl

theorem en_X6_write {d : Nat} {E : pEv} {ro : Nat → Nat → Int32} {Q : Option Value → pH → Prop} (s_E : oE E) {r0 : Nat} (h0 : oSheet r0) {x1 : Int32} {x2 : Int32} : wX (d + 1) 85 [.ref r0, .int x1, .int x2] (mkH E ro) Q = wX d 58 [.ref (r0 + 1), .int x1, .int ((x2 <<< ((32 - (ro r0 1)) &&& 31)) >>> ((32 - (ro r0 1)) &&& 31))] (mkH E ro) (fun v h' => wG d 85 (21, [.ref r0, .int x1, .int x2, .int (32 - (ro r0 1))], pv v [], h') Q) := by
  refine (wX_in rfl (by decide)).trans ?_
  show wG d 85 (0, [.ref r0, .int x1, .int x2, .retAddr 0], [], mkH E ro) Q = _
  refine (r_bipush (v := 32) rfl rfl rfl).trans ?_
  refine (r_aload_n rfl rfl rfl).trans ?_
  refine (r_getI (ci := 6) (sl := 1) rfl rfl rfl h0.2.1 h0.1).trans ?_
  refine (r_isub rfl rfl).trans ?_
  refine (r_istore_n rfl rfl rfl rfl).trans ?_
  refine (r_aload_n rfl rfl rfl).trans ?_
  refine (r_getR (ci := 6) (sl := 0) s_E rfl rfl rfl h0.2.1 h0.1 h0.2.2.1 (n81 h0.2.1 (by decide))).trans ?_
  refine (r_iload_n rfl rfl rfl).trans ?_
  refine (r_iload_n rfl rfl rfl).trans ?_
  refine (r_iload_n rfl rfl rfl).trans ?_
  refine (r_ishl rfl rfl).trans ?_
  refine (r_iload_n rfl rfl rfl).trans ?_
  refine (r_ishr rfl rfl).trans ?_
  exact r_inv (m := 58) (c := 4) rfl rfl rfl rfl rfl rfl h0.2.2.2.2.1 rfl

theorem sg_X6_write_21 {d : Nat} {E : pEv} {ro : Nat → Nat → Int32} {Q : Option Value → pH → Prop} (s_E : oE E) {r0 : Nat} (h0 : oSheet r0) {x1 : Int32} {x2 : Int32} {x3 : Int32} : wG d 85 (21, [.ref r0, .int x1, .int x2, .int x3], [], mkH E ro) Q = Q none (mkH E ro) := by
  exact r_vret rfl rfl
