theorem en_X3_faultIn {d : Nat} {E : pEv} {ro : Nat → Nat → Int32} {Q : Option Value → pH → Prop} (s_E : oE E) {x1 : Int32} : wX (d + 1) 46 [.ref 81, .int x1] (mkH E ro) Q = (if x1 = 0 then wX d 66 [.ref 82] (mkH E (uI (uI ro 9 0 (nI 1)) 81 2 0)) (fun v h' => wG d 46 (27, [.ref 81, .int x1, .retAddr 0], pv v [], h') Q) else wX d 66 [.ref 82] (mkH E (uI (uI ro 9 0 (nI 2)) 81 2 0)) (fun v h' => wG d 46 (27, [.ref 81, .int x1, .retAddr 0], pv v [], h') Q)) := by
  refine (wX_in rfl (by decide)).trans ?_
  show wG d 46 (0, [.ref 81, .int x1, .retAddr 0], [], mkH E ro) Q = _
  refine (r_aload_n rfl rfl rfl).trans ?_
  refine (r_iload_n rfl rfl rfl).trans ?_
  refine (r_if_ne rfl rfl rfl).trans ?_
  refine ite_congr rfl (fun h_0 => ?_) (fun h_0 => ?_)
  · refine (r_ldcS rfl rfl rfl).trans ?_
    refine (r_goto rfl rfl).trans ?_
    refine (r_putNm rfl rfl rfl (by decide)).trans ?_
    refine (r_aload_n rfl rfl rfl).trans ?_
    refine (r_iconst (v := 0) rfl rfl rfl).trans ?_
    refine (r_putI (ci := 3) (sl := 2) rfl rfl rfl rfl (by decide)).trans ?_
    refine (r_aload_n rfl rfl rfl).trans ?_
    refine (r_getR (ci := 3) (sl := 3) s_E rfl rfl rfl rfl (by decide) rfl rfl).trans ?_
    exact r_inv (m := 66) (c := 4) rfl rfl rfl rfl rfl rfl rfl rfl
  · refine (r_ldcS rfl rfl rfl).trans ?_
    refine (r_putNm rfl rfl rfl (by decide)).trans ?_
    refine (r_aload_n rfl rfl rfl).trans ?_
    refine (r_iconst (v := 0) rfl rfl rfl).trans ?_
    refine (r_putI (ci := 3) (sl := 2) rfl rfl rfl rfl (by decide)).trans ?_
    refine (r_aload_n rfl rfl rfl).trans ?_
    refine (r_getR (ci := 3) (sl := 3) s_E rfl rfl rfl rfl (by decide) rfl rfl).trans ?_
    exact r_inv (m := 66) (c := 4) rfl rfl rfl rfl rfl rfl rfl rfl

theorem sg_X3_faultIn_27 {d : Nat} {E : pEv} {ro : Nat → Nat → Int32} {Q : Option Value → pH → Prop} (s_E : oE E) {x1 : Int32} {v2 : Value} : wG d 46 (27, [.ref 81, .int x1, v2], [], mkH E ro) Q = wX d 49 [.ref 81, .int 0, .int 0] (mkH E ro) (fun v h' => wG d 46 (33, [.ref 81, .int x1, v2], pv v [], h') Q) := by
  refine (r_aload_n rfl rfl rfl).trans ?_
  refine (r_iconst (v := 0) rfl rfl rfl).trans ?_
  refine (r_iconst (v := 0) rfl rfl rfl).trans ?_
  exact r_inv (m := 49) (c := 3) rfl rfl rfl rfl rfl rfl rfl rfl

theorem sg_X3_faultIn_33 {d : Nat} {E : pEv} {ro : Nat → Nat → Int32} {Q : Option Value → pH → Prop} (s_E : oE E) {x1 : Int32} {v2 : Value} {xs0 : Int32} : wG d 46 (33, [.ref 81, .int x1, v2], [.int xs0], mkH E ro) Q = (if xs0 = 0 then Q (some (.int (ro 81 2))) (mkH E ro) else (if (ro 81 2) = (ro 34 1) then Q (some (.int (-1))) (mkH E ro) else Q (some (.int (ro 81 2))) (mkH E ro))) := by
  refine (r_if_eq rfl rfl rfl).trans ?_
  refine ite_congr rfl (fun h_0 => ?_) (fun h_0 => ?_)
  · refine (r_iconst (v := 0) rfl rfl rfl).trans ?_
    refine (r_istore_n rfl rfl rfl rfl).trans ?_
    refine (r_iload_n rfl rfl rfl).trans ?_
    refine (r_if_eq rfl rfl rfl).trans ?_
    refine (if_pos (by decide)).trans ?_
    refine (r_aload_n rfl rfl rfl).trans ?_
    refine (r_getI (ci := 3) (sl := 2) rfl rfl rfl rfl (by decide)).trans ?_
    exact r_iret rfl rfl
  · refine (r_aload_n rfl rfl rfl).trans ?_
    refine (r_getI (ci := 3) (sl := 2) rfl rfl rfl rfl (by decide)).trans ?_
    refine (r_aload_n rfl rfl rfl).trans ?_
    refine (r_getR (ci := 3) (sl := 0) s_E rfl rfl rfl rfl (by decide) rfl rfl).trans ?_
    refine (r_getI (ci := 4) (sl := 1) rfl rfl rfl rfl (by decide)).trans ?_
    refine (r_icmp_ne rfl rfl rfl).trans ?_
    refine ite_congr rfl (fun h_1 => ?_) (fun h_1 => ?_)
    · refine (r_iconst (v := 1) rfl rfl rfl).trans ?_
      refine (r_goto rfl rfl).trans ?_
      refine (r_istore_n rfl rfl rfl rfl).trans ?_
      refine (r_iload_n rfl rfl rfl).trans ?_
      refine (r_if_eq rfl rfl rfl).trans ?_
      refine (if_neg (by decide)).trans ?_
      refine (r_iconst (v := (-1)) rfl rfl rfl).trans ?_
      refine (r_goto rfl rfl).trans ?_
      exact r_iret rfl rfl
    · refine (r_iconst (v := 0) rfl rfl rfl).trans ?_
      refine (r_istore_n rfl rfl rfl rfl).trans ?_
      refine (r_iload_n rfl rfl rfl).trans ?_
      refine (r_if_eq rfl rfl rfl).trans ?_
      refine (if_pos (by decide)).trans ?_
      refine (r_aload_n rfl rfl rfl).trans ?_
      refine (r_getI (ci := 3) (sl := 2) rfl rfl rfl rfl (by decide)).trans ?_
      exact r_iret rfl rfl

theorem en_X3_here {d : Nat} {E : pEv} {ro : Nat → Nat → Int32} {Q : Option Value → pH → Prop} (s_E : oE E) : wX (d + 1) 47 [.ref 81] (mkH E ro) Q = (if (ro 81 2) < (ro 34 1) then wX d 57 [.ref 34, .int (ro 81 2)] (mkH E ro) (fun v h' => wG d 47 (25, [.ref 81], pv v [], h') Q) else Q (some (.int (-1))) (mkH E ro)) := by
  refine (wX_in rfl (by decide)).trans ?_
  show wG d 47 (0, [.ref 81], [], mkH E ro) Q = _
  refine (r_aload_n rfl rfl rfl).trans ?_
  refine (r_getI (ci := 3) (sl := 2) rfl rfl rfl rfl (by decide)).trans ?_
  refine (r_aload_n rfl rfl rfl).trans ?_
  refine (r_getR (ci := 3) (sl := 0) s_E rfl rfl rfl rfl (by decide) rfl rfl).trans ?_
  refine (r_getI (ci := 4) (sl := 1) rfl rfl rfl rfl (by decide)).trans ?_
  refine (r_icmp_ge rfl rfl rfl).trans ?_
  refine ite_congr rfl (fun h_0 => ?_) (fun h_0 => ?_)
  · refine (r_aload_n rfl rfl rfl).trans ?_
    refine (r_getR (ci := 3) (sl := 0) s_E rfl rfl rfl rfl (by decide) rfl rfl).trans ?_
    refine (r_aload_n rfl rfl rfl).trans ?_
    refine (r_getI (ci := 3) (sl := 2) rfl rfl rfl rfl (by decide)).trans ?_
    exact r_inv (m := 57) (c := 4) rfl rfl rfl rfl rfl rfl rfl rfl
  · refine (r_iconst (v := (-1)) rfl rfl rfl).trans ?_
    exact r_iret rfl rfl

theorem sg_X3_here_25 {d : Nat} {E : pEv} {ro : Nat → Nat → Int32} {Q : Option Value → pH → Prop} (s_E : oE E) {xs0 : Int32} : wG d 47 (25, [.ref 81], [.int xs0], mkH E ro) Q = Q (some (.int xs0)) (mkH E ro) := by
  refine (r_goto rfl rfl).trans ?_
  exact r_iret rfl rfl

theorem en_X3_levelOf {d : Nat} {E : pEv} {ro : Nat → Nat → Int32} {Q : Option Value → pH → Prop} (s_E : oE E) {x0 : Int32} : wX (d + 1) 48 [.int x0] (mkH E ro) Q = (if x0 = 37 then Q (some (.int 4)) (mkH E ro) else (if x0 = 38 then Q (some (.int 1)) (mkH E ro) else (if x0 = 42 then Q (some (.int 4)) (mkH E ro) else (if x0 = 43 then Q (some (.int 3)) (mkH E ro) else (if x0 = 45 then Q (some (.int 3)) (mkH E ro) else (if x0 = 47 then Q (some (.int 4)) (mkH E ro) else (if x0 = 60 then Q (some (.int 2)) (mkH E ro) else (if x0 = 61 then Q (some (.int 2)) (mkH E ro) else (if x0 = 62 then Q (some (.int 2)) (mkH E ro) else (if x0 = 124 then Q (some (.int 0)) (mkH E ro) else Q (some (.int (-1))) (mkH E ro))))))))))) := by
  refine (wX_in rfl (by decide)).trans ?_
  show wG d 48 (0, [.int x0], [], mkH E ro) Q = _
  refine (r_iload_n rfl rfl rfl).trans ?_
  refine (r_lk rfl rfl).trans ?_
  refine (r_swc (y := 37) rfl).trans ?_
  refine ite_congr rfl (fun h_0 => ?_) (fun h_0 => ?_)
  · refine (r_iconst (v := 4) rfl rfl rfl).trans ?_
    exact r_iret rfl rfl
  · refine (r_swc (y := 38) rfl).trans ?_
    refine ite_congr rfl (fun h_1 => ?_) (fun h_1 => ?_)
    · refine (r_iconst (v := 1) rfl rfl rfl).trans ?_
      exact r_iret rfl rfl
    · refine (r_swc (y := 42) rfl).trans ?_
      refine ite_congr rfl (fun h_2 => ?_) (fun h_2 => ?_)
      · refine (r_iconst (v := 4) rfl rfl rfl).trans ?_
        exact r_iret rfl rfl
      · refine (r_swc (y := 43) rfl).trans ?_
        refine ite_congr rfl (fun h_3 => ?_) (fun h_3 => ?_)
        · refine (r_iconst (v := 3) rfl rfl rfl).trans ?_
          exact r_iret rfl rfl
        · refine (r_swc (y := 45) rfl).trans ?_
          refine ite_congr rfl (fun h_4 => ?_) (fun h_4 => ?_)
          · refine (r_iconst (v := 3) rfl rfl rfl).trans ?_
            exact r_iret rfl rfl
          · refine (r_swc (y := 47) rfl).trans ?_
            refine ite_congr rfl (fun h_5 => ?_) (fun h_5 => ?_)
            · refine (r_iconst (v := 4) rfl rfl rfl).trans ?_
              exact r_iret rfl rfl
            · refine (r_swc (y := 60) rfl).trans ?_
              refine ite_congr rfl (fun h_6 => ?_) (fun h_6 => ?_)
              · refine (r_iconst (v := 2) rfl rfl rfl).trans ?_
                exact r_iret rfl rfl
              · refine (r_swc (y := 61) rfl).trans ?_
                refine ite_congr rfl (fun h_7 => ?_) (fun h_7 => ?_)
                · refine (r_iconst (v := 2) rfl rfl rfl).trans ?_
                  exact r_iret rfl rfl
                · refine (r_swc (y := 62) rfl).trans ?_
                  refine ite_congr rfl (fun h_8 => ?_) (fun h_8 => ?_)
                  · refine (r_iconst (v := 2) rfl rfl rfl).trans ?_
                    exact r_iret rfl rfl
                  · refine (r_swc (y := 124) rfl).trans ?_
                    refine ite_congr rfl (fun h_9 => ?_) (fun h_9 => ?_)
                    · refine (r_iconst (v := 0) rfl rfl rfl).trans ?_
                      exact r_iret rfl rfl
                    · refine r_swn.trans ?_
                      refine (r_iconst (v := (-1)) rfl rfl rfl).trans ?_
                      exact r_iret rfl rfl

theorem en_X3_readsLevel {d : Nat} {E : pEv} {ro : Nat → Nat → Int32} {Q : Option Value → pH → Prop} (s_E : oE E) {x1 : Int32} {x2 : Int32} : wX (d + 1) 49 [.ref 81, .int x1, .int x2] (mkH E ro) Q = (if x1 < 5 then wX d 49 [.ref 81, .int (x1 + 1), .int x2] (mkH E ro) (fun v h' => wG d 49 (19, [.ref 81, .int x1, .int x2, .retAddr 0, .retAddr 0, .retAddr 0], pv v [], h') Q) else wX d 50 [.ref 81, .int x2] (mkH E ro) (fun v h' => wG d 49 (10, [.ref 81, .int x1, .int x2, .retAddr 0, .retAddr 0, .retAddr 0], pv v [], h') Q)) := by
  refine (wX_in rfl (by decide)).trans ?_
  show wG d 49 (0, [.ref 81, .int x1, .int x2, .retAddr 0, .retAddr 0, .retAddr 0], [], mkH E ro) Q = _
  refine (r_iload_n rfl rfl rfl).trans ?_
  refine (r_iconst (v := 5) rfl rfl rfl).trans ?_
  refine (r_icmp_lt rfl rfl rfl).trans ?_
  refine ite_congr rfl (fun h_0 => ?_) (fun h_0 => ?_)
  · refine (r_aload_n rfl rfl rfl).trans ?_
    refine (r_iload_n rfl rfl rfl).trans ?_
    refine (r_iconst (v := 1) rfl rfl rfl).trans ?_
    refine (r_iadd rfl rfl).trans ?_
    refine (r_iload_n rfl rfl rfl).trans ?_
    exact r_inv (m := 49) (c := 3) rfl rfl rfl rfl rfl rfl rfl rfl
  · refine (r_aload_n rfl rfl rfl).trans ?_
    refine (r_iload_n rfl rfl rfl).trans ?_
    exact r_inv (m := 50) (c := 3) rfl rfl rfl rfl rfl rfl rfl rfl

theorem sg_X3_readsLevel_10 {d : Nat} {E : pEv} {ro : Nat → Nat → Int32} {Q : Option Value → pH → Prop} (s_E : oE E) {x1 : Int32} {x2 : Int32} {v3 : Value} {v4 : Value} {v5 : Value} {xs0 : Int32} (b0 : (narrow .boolean (.int xs0) = .int xs0)) : wG d 49 (10, [.ref 81, .int x1, .int x2, v3, v4, v5], [.int xs0], mkH E ro) Q = Q (some (.int xs0)) (mkH E ro) := by
  exact r_zret rfl rfl b0

theorem sg_X3_readsLevel_19 {d : Nat} {E : pEv} {ro : Nat → Nat → Int32} {Q : Option Value → pH → Prop} (s_E : oE E) {x1 : Int32} {x2 : Int32} {v3 : Value} {v4 : Value} {v5 : Value} {xs0 : Int32} : wG d 49 (19, [.ref 81, .int x1, .int x2, v3, v4, v5], [.int xs0], mkH E ro) Q = (if xs0 = 0 then Q (some (.int 0)) (mkH E ro) else (if x1 = 2 then wG d 49 (39, [.ref 81, .int x1, .int x2, .int 1, .int 0, v5], [], mkH E ro) Q else wG d 49 (39, [.ref 81, .int x1, .int x2, .int 50, .int 0, v5], [], mkH E ro) Q)) := by
  refine (r_if_ne rfl rfl rfl).trans ?_
  refine ite_congr rfl (fun h_0 => ?_) (fun h_0 => ?_)
  · refine (r_iconst (v := 0) rfl rfl rfl).trans ?_
    exact r_zret rfl rfl rfl
  · refine (r_iload_n rfl rfl rfl).trans ?_
    refine (r_iconst (v := 2) rfl rfl rfl).trans ?_
    refine (r_icmp_ne rfl rfl rfl).trans ?_
    refine ite_congr rfl (fun h_1 => ?_) (fun h_1 => ?_)
    · refine (r_iconst (v := 1) rfl rfl rfl).trans ?_
      refine (r_goto rfl rfl).trans ?_
      refine (r_istore_n rfl rfl rfl rfl).trans ?_
      refine (r_iconst (v := 0) rfl rfl rfl).trans ?_
      refine (r_istore rfl rfl rfl rfl).trans ?_
      exact rfl
    · refine (r_bipush (v := 50) rfl rfl rfl).trans ?_
      refine (r_istore_n rfl rfl rfl rfl).trans ?_
      refine (r_iconst (v := 0) rfl rfl rfl).trans ?_
      refine (r_istore rfl rfl rfl rfl).trans ?_
      exact rfl

theorem sg_X3_readsLevel_39 {d : Nat} {E : pEv} {ro : Nat → Nat → Int32} {Q : Option Value → pH → Prop} (s_E : oE E) {x1 : Int32} {x2 : Int32} {x3 : Int32} {x4 : Int32} {v5 : Value} : wG d 49 (39, [.ref 81, .int x1, .int x2, .int x3, .int x4, v5], [], mkH E ro) Q = (if x4 < x3 then wX d 47 [.ref 81] (mkH E ro) (fun v h' => wG d 49 (49, [.ref 81, .int x1, .int x2, .int x3, .int x4, v5], pv v [], h') Q) else Q (some (.int 1)) (mkH E ro)) := by
  refine (r_iload rfl rfl rfl).trans ?_
  refine (r_iload_n rfl rfl rfl).trans ?_
  refine (r_icmp_ge rfl rfl rfl).trans ?_
  refine ite_congr rfl (fun h_0 => ?_) (fun h_0 => ?_)
  · refine (r_aload_n rfl rfl rfl).trans ?_
    exact r_inv (m := 47) (c := 3) rfl rfl rfl rfl rfl rfl rfl rfl
  · refine (r_iconst (v := 1) rfl rfl rfl).trans ?_
    exact r_zret rfl rfl rfl

theorem sg_X3_readsLevel_49 {d : Nat} {E : pEv} {ro : Nat → Nat → Int32} {Q : Option Value → pH → Prop} (s_E : oE E) {x1 : Int32} {x2 : Int32} {x3 : Int32} {x4 : Int32} {v5 : Value} {xs0 : Int32} : wG d 49 (49, [.ref 81, .int x1, .int x2, .int x3, .int x4, v5], [.int xs0], mkH E ro) Q = wX d 48 [.int xs0] (mkH E ro) (fun v h' => wG d 49 (52, [.ref 81, .int x1, .int x2, .int x3, .int x4, v5], pv v [], h') Q) := by
  exact r_ins (m := 48) rfl rfl rfl rfl rfl rfl

theorem sg_X3_readsLevel_52 {d : Nat} {E : pEv} {ro : Nat → Nat → Int32} {Q : Option Value → pH → Prop} (s_E : oE E) {x1 : Int32} {x2 : Int32} {x3 : Int32} {x4 : Int32} {v5 : Value} {xs0 : Int32} : wG d 49 (52, [.ref 81, .int x1, .int x2, .int x3, .int x4, v5], [.int xs0], mkH E ro) Q = (if xs0 = x1 then wX d 47 [.ref 81] (mkH E ro) (fun v h' => wG d 49 (60, [.ref 81, .int x1, .int x2, .int x3, .int x4, v5], pv v [], h') Q) else Q (some (.int 1)) (mkH E ro)) := by
  refine (r_iload_n rfl rfl rfl).trans ?_
  refine (r_icmp_ne rfl rfl rfl).trans ?_
  refine ite_congr rfl (fun h_0 => ?_) (fun h_0 => ?_)
  · refine (r_aload_n rfl rfl rfl).trans ?_
    exact r_inv (m := 47) (c := 3) rfl rfl rfl rfl rfl rfl rfl rfl
  · refine (r_iconst (v := 1) rfl rfl rfl).trans ?_
    exact r_zret rfl rfl rfl

theorem sg_X3_readsLevel_60 {d : Nat} {E : pEv} {ro : Nat → Nat → Int32} {Q : Option Value → pH → Prop} (s_E : oE E) {x1 : Int32} {x2 : Int32} {x3 : Int32} {x4 : Int32} {v5 : Value} {xs0 : Int32} : wG d 49 (60, [.ref 81, .int x1, .int x2, .int x3, .int x4, v5], [.int xs0], mkH E ro) Q = wX d 49 [.ref 81, .int (x1 + 1), .int x2] (mkH E (uI ro 81 2 ((ro 81 2) + 1))) (fun v h' => wG d 49 (80, [.ref 81, .int x1, .int x2, .int x3, .int x4, .int xs0], pv v [], h') Q) := by
  refine (r_istore rfl rfl rfl rfl).trans ?_
  refine (r_aload_n rfl rfl rfl).trans ?_
  refine (r_dupR rfl rfl).trans ?_
  refine (r_getI (ci := 3) (sl := 2) rfl rfl rfl rfl (by decide)).trans ?_
  refine (r_iconst (v := 1) rfl rfl rfl).trans ?_
  refine (r_iadd rfl rfl).trans ?_
  refine (r_putI (ci := 3) (sl := 2) rfl rfl rfl rfl (by decide)).trans ?_
  refine (r_aload_n rfl rfl rfl).trans ?_
  refine (r_iload_n rfl rfl rfl).trans ?_
  refine (r_iconst (v := 1) rfl rfl rfl).trans ?_
  refine (r_iadd rfl rfl).trans ?_
  refine (r_iload_n rfl rfl rfl).trans ?_
  exact r_inv (m := 49) (c := 3) rfl rfl rfl rfl rfl rfl rfl rfl

theorem sg_X3_readsLevel_80 {d : Nat} {E : pEv} {ro : Nat → Nat → Int32} {Q : Option Value → pH → Prop} (s_E : oE E) {x1 : Int32} {x2 : Int32} {x3 : Int32} {x4 : Int32} {x5 : Int32} {xs0 : Int32} : wG d 49 (80, [.ref 81, .int x1, .int x2, .int x3, .int x4, .int x5], [.int xs0], mkH E ro) Q = (if xs0 = 0 then Q (some (.int 0)) (mkH E ro) else wX d 59 [.ref 82, .int (-x5)] (mkH E ro) (fun v h' => wG d 49 (95, [.ref 81, .int x1, .int x2, .int x3, .int x4, .int x5], pv v [], h') Q)) := by
  refine (r_if_ne rfl rfl rfl).trans ?_
  refine ite_congr rfl (fun h_0 => ?_) (fun h_0 => ?_)
  · refine (r_iconst (v := 0) rfl rfl rfl).trans ?_
    exact r_zret rfl rfl rfl
  · refine (r_aload_n rfl rfl rfl).trans ?_
    refine (r_getR (ci := 3) (sl := 3) s_E rfl rfl rfl rfl (by decide) rfl rfl).trans ?_
    refine (r_iload rfl rfl rfl).trans ?_
    refine (r_ineg rfl rfl).trans ?_
    exact r_inv (m := 59) (c := 4) rfl rfl rfl rfl rfl rfl rfl rfl

theorem sg_X3_readsLevel_95 {d : Nat} {E : pEv} {ro : Nat → Nat → Int32} {Q : Option Value → pH → Prop} (s_E : oE E) {x1 : Int32} {x2 : Int32} {x3 : Int32} {x4 : Int32} {x5 : Int32} : wG d 49 (95, [.ref 81, .int x1, .int x2, .int x3, .int x4, .int x5], [], mkH E ro) Q = wG d 49 (39, [.ref 81, .int x1, .int x2, .int x3, .int (x4 + 1), .int x5], [], mkH E ro) Q := by
  refine (r_iinc (y := 1) rfl rfl rfl rfl rfl rfl).trans ?_
  refine (r_goto rfl rfl).trans ?_
  exact rfl

theorem en_X3_readsInnermost {d : Nat} {E : pEv} {ro : Nat → Nat → Int32} {Q : Option Value → pH → Prop} (s_E : oE E) {x1 : Int32} : wX (d + 1) 50 [.ref 81, .int x1] (mkH E ro) Q = wX d 47 [.ref 81] (mkH E ro) (fun v h' => wG d 50 (4, [.ref 81, .int x1, .retAddr 0, .retAddr 0], pv v [], h') Q) := by
  refine (wX_in rfl (by decide)).trans ?_
  show wG d 50 (0, [.ref 81, .int x1, .retAddr 0, .retAddr 0], [], mkH E ro) Q = _
  refine (r_aload_n rfl rfl rfl).trans ?_
  exact r_inv (m := 47) (c := 3) rfl rfl rfl rfl rfl rfl rfl rfl

theorem sg_X3_readsInnermost_4 {d : Nat} {E : pEv} {ro : Nat → Nat → Int32} {Q : Option Value → pH → Prop} (s_E : oE E) {x1 : Int32} {v2 : Value} {v3 : Value} {xs0 : Int32} : wG d 50 (4, [.ref 81, .int x1, v2, v3], [.int xs0], mkH E ro) Q = wX d 54 [.int xs0] (mkH E ro) (fun v h' => wG d 50 (9, [.ref 81, .int x1, .int xs0, v3], pv v [], h') Q) := by
  refine (r_istore_n rfl rfl rfl rfl).trans ?_
  refine (r_iload_n rfl rfl rfl).trans ?_
  exact r_ins (m := 54) rfl rfl rfl rfl rfl rfl

theorem sg_X3_readsInnermost_9 {d : Nat} {E : pEv} {ro : Nat → Nat → Int32} {Q : Option Value → pH → Prop} (s_E : oE E) {x1 : Int32} {x2 : Int32} {v3 : Value} {xs0 : Int32} (b0 : (xs0 = 0) → (¬ x2 < 0) → (sB (ro 9 0).toNatClampNeg = .inl 11)) : wG d 50 (9, [.ref 81, .int x1, .int x2, v3], [.int xs0], mkH E ro) Q = (if xs0 = 0 then (if x2 < 0 then (if x1 < 5 then (if x2 = 33 then (if x2 = 33 then wX d 51 [.ref 81, .int (x1 + 1)] (mkH E (uI ro 81 2 ((ro 81 2) + 1))) (fun v h' => wG d 50 (104, [.ref 81, .int x1, .int x2, .int (-1)], pv v [], h') Q) else wX d 49 [.ref 81, .int 0, .int (x1 + 1)] (mkH E (uI ro 81 2 ((ro 81 2) + 1))) (fun v h' => wG d 50 (115, [.ref 81, .int x1, .int x2, .int (-1)], pv v [], h') Q)) else (if x2 = 40 then (if x2 = 33 then wX d 51 [.ref 81, .int (x1 + 1)] (mkH E (uI ro 81 2 ((ro 81 2) + 1))) (fun v h' => wG d 50 (104, [.ref 81, .int x1, .int x2, .int (-1)], pv v [], h') Q) else wX d 49 [.ref 81, .int 0, .int (x1 + 1)] (mkH E (uI ro 81 2 ((ro 81 2) + 1))) (fun v h' => wG d 50 (115, [.ref 81, .int x1, .int x2, .int (-1)], pv v [], h') Q)) else Q (some (.int 0)) (mkH E ro))) else Q (some (.int 0)) (mkH E ro)) else wX d 248 [.ref (ro 9 0).toNatClampNeg, .int ((x2.toUInt32 % 65536).toInt32)] (mkH E ro) (fun v h' => wG d 50 (35, [.ref 81, .int x1, .int x2, v3], pv v [], h') Q)) else wX d 53 [.ref 81] (mkH E ro) (fun v h' => wG d 50 (16, [.ref 81, .int x1, .int x2, v3], pv v [], h') Q)) := by
  refine (r_if_eq rfl rfl rfl).trans ?_
  refine ite_congr rfl (fun h_0 => ?_) (fun h_0 => ?_)
  · refine (r_iload_n rfl rfl rfl).trans ?_
    refine (r_if_ge rfl rfl rfl).trans ?_
    refine ite_congr rfl (fun h_1 => ?_) (fun h_1 => ?_)
    · refine (r_iconst (v := (-1)) rfl rfl rfl).trans ?_
      refine (r_goto rfl rfl).trans ?_
      refine (r_istore_n rfl rfl rfl rfl).trans ?_
      refine (r_iload_n rfl rfl rfl).trans ?_
      refine (r_if_lt rfl rfl rfl).trans ?_
      refine (if_pos (by decide)).trans ?_
      refine (r_iload_n rfl rfl rfl).trans ?_
      refine (r_iconst (v := 5) rfl rfl rfl).trans ?_
      refine (r_icmp_ge rfl rfl rfl).trans ?_
      refine ite_congr rfl (fun h_2 => ?_) (fun h_2 => ?_)
      · refine (r_iload_n rfl rfl rfl).trans ?_
        refine (r_bipush (v := 33) rfl rfl rfl).trans ?_
        refine (r_icmp_eq rfl rfl rfl).trans ?_
        refine ite_congr rfl (fun h_3 => ?_) (fun h_3 => ?_)
        · refine (r_aload_n rfl rfl rfl).trans ?_
          refine (r_dupR rfl rfl).trans ?_
          refine (r_getI (ci := 3) (sl := 2) rfl rfl rfl rfl (by decide)).trans ?_
          refine (r_iconst (v := 1) rfl rfl rfl).trans ?_
          refine (r_iadd rfl rfl).trans ?_
          refine (r_putI (ci := 3) (sl := 2) rfl rfl rfl rfl (by decide)).trans ?_
          refine (r_iload_n rfl rfl rfl).trans ?_
          refine (r_bipush (v := 33) rfl rfl rfl).trans ?_
          refine (r_icmp_ne rfl rfl rfl).trans ?_
          refine ite_congr rfl (fun h_4 => ?_) (fun h_4 => ?_)
          · refine (r_aload_n rfl rfl rfl).trans ?_
            refine (r_iload_n rfl rfl rfl).trans ?_
            refine (r_iconst (v := 1) rfl rfl rfl).trans ?_
            refine (r_iadd rfl rfl).trans ?_
            exact r_inv (m := 51) (c := 3) rfl rfl rfl rfl rfl rfl rfl rfl
          · refine (r_aload_n rfl rfl rfl).trans ?_
            refine (r_iconst (v := 0) rfl rfl rfl).trans ?_
            refine (r_iload_n rfl rfl rfl).trans ?_
            refine (r_iconst (v := 1) rfl rfl rfl).trans ?_
            refine (r_iadd rfl rfl).trans ?_
            exact r_inv (m := 49) (c := 3) rfl rfl rfl rfl rfl rfl rfl rfl
        · refine (r_iload_n rfl rfl rfl).trans ?_
          refine (r_bipush (v := 40) rfl rfl rfl).trans ?_
          refine (r_icmp_eq rfl rfl rfl).trans ?_
          refine ite_congr rfl (fun h_4 => ?_) (fun h_4 => ?_)
          · refine (r_aload_n rfl rfl rfl).trans ?_
            refine (r_dupR rfl rfl).trans ?_
            refine (r_getI (ci := 3) (sl := 2) rfl rfl rfl rfl (by decide)).trans ?_
            refine (r_iconst (v := 1) rfl rfl rfl).trans ?_
            refine (r_iadd rfl rfl).trans ?_
            refine (r_putI (ci := 3) (sl := 2) rfl rfl rfl rfl (by decide)).trans ?_
            refine (r_iload_n rfl rfl rfl).trans ?_
            refine (r_bipush (v := 33) rfl rfl rfl).trans ?_
            refine (r_icmp_ne rfl rfl rfl).trans ?_
            refine ite_congr rfl (fun h_5 => ?_) (fun h_5 => ?_)
            · refine (r_aload_n rfl rfl rfl).trans ?_
              refine (r_iload_n rfl rfl rfl).trans ?_
              refine (r_iconst (v := 1) rfl rfl rfl).trans ?_
              refine (r_iadd rfl rfl).trans ?_
              exact r_inv (m := 51) (c := 3) rfl rfl rfl rfl rfl rfl rfl rfl
            · refine (r_aload_n rfl rfl rfl).trans ?_
              refine (r_iconst (v := 0) rfl rfl rfl).trans ?_
              refine (r_iload_n rfl rfl rfl).trans ?_
              refine (r_iconst (v := 1) rfl rfl rfl).trans ?_
              refine (r_iadd rfl rfl).trans ?_
              exact r_inv (m := 49) (c := 3) rfl rfl rfl rfl rfl rfl rfl rfl
          · refine (r_iconst (v := 0) rfl rfl rfl).trans ?_
            exact r_zret rfl rfl rfl
      · refine (r_iconst (v := 0) rfl rfl rfl).trans ?_
        exact r_zret rfl rfl rfl
    · refine (r_aload_n rfl rfl rfl).trans ?_
      refine (r_getNm rfl rfl rfl).trans ?_
      refine (r_iload_n rfl rfl rfl).trans ?_
      refine (r_i2c rfl rfl).trans ?_
      exact r_inv (m := 248) (c := 11) rfl rfl rfl rfl rfl rfl (b0 h_0 h_1) rfl
  · refine (r_aload_n rfl rfl rfl).trans ?_
    exact r_inv (m := 53) (c := 3) rfl rfl rfl rfl rfl rfl rfl rfl

theorem sg_X3_readsInnermost_16 {d : Nat} {E : pEv} {ro : Nat → Nat → Int32} {Q : Option Value → pH → Prop} (s_E : oE E) {x1 : Int32} {x2 : Int32} {v3 : Value} : wG d 50 (16, [.ref 81, .int x1, .int x2, v3], [], mkH E ro) Q = Q (some (.int 1)) (mkH E ro) := by
  refine (r_iconst (v := 1) rfl rfl rfl).trans ?_
  exact r_zret rfl rfl rfl

theorem sg_X3_readsInnermost_35 {d : Nat} {E : pEv} {ro : Nat → Nat → Int32} {Q : Option Value → pH → Prop} (s_E : oE E) {x1 : Int32} {x2 : Int32} {v3 : Value} {xs0 : Int32} : wG d 50 (35, [.ref 81, .int x1, .int x2, v3], [.int xs0], mkH E ro) Q = (if xs0 < 0 then (if x1 < 5 then (if x2 = 33 then (if x2 = 33 then wX d 51 [.ref 81, .int (x1 + 1)] (mkH E (uI ro 81 2 ((ro 81 2) + 1))) (fun v h' => wG d 50 (104, [.ref 81, .int x1, .int x2, .int xs0], pv v [], h') Q) else wX d 49 [.ref 81, .int 0, .int (x1 + 1)] (mkH E (uI ro 81 2 ((ro 81 2) + 1))) (fun v h' => wG d 50 (115, [.ref 81, .int x1, .int x2, .int xs0], pv v [], h') Q)) else (if x2 = 40 then (if x2 = 33 then wX d 51 [.ref 81, .int (x1 + 1)] (mkH E (uI ro 81 2 ((ro 81 2) + 1))) (fun v h' => wG d 50 (104, [.ref 81, .int x1, .int x2, .int xs0], pv v [], h') Q) else wX d 49 [.ref 81, .int 0, .int (x1 + 1)] (mkH E (uI ro 81 2 ((ro 81 2) + 1))) (fun v h' => wG d 50 (115, [.ref 81, .int x1, .int x2, .int xs0], pv v [], h') Q)) else Q (some (.int 0)) (mkH E ro))) else Q (some (.int 0)) (mkH E ro)) else wX d 59 [.ref 82, .int ((-1) - xs0)] (mkH E (uI ro 81 2 ((ro 81 2) + 1))) (fun v h' => wG d 50 (60, [.ref 81, .int x1, .int x2, .int xs0], pv v [], h') Q)) := by
  refine (r_istore_n rfl rfl rfl rfl).trans ?_
  refine (r_iload_n rfl rfl rfl).trans ?_
  refine (r_if_lt rfl rfl rfl).trans ?_
  refine ite_congr rfl (fun h_0 => ?_) (fun h_0 => ?_)
  · refine (r_iload_n rfl rfl rfl).trans ?_
    refine (r_iconst (v := 5) rfl rfl rfl).trans ?_
    refine (r_icmp_ge rfl rfl rfl).trans ?_
    refine ite_congr rfl (fun h_1 => ?_) (fun h_1 => ?_)
    · refine (r_iload_n rfl rfl rfl).trans ?_
      refine (r_bipush (v := 33) rfl rfl rfl).trans ?_
      refine (r_icmp_eq rfl rfl rfl).trans ?_
      refine ite_congr rfl (fun h_2 => ?_) (fun h_2 => ?_)
      · refine (r_aload_n rfl rfl rfl).trans ?_
        refine (r_dupR rfl rfl).trans ?_
        refine (r_getI (ci := 3) (sl := 2) rfl rfl rfl rfl (by decide)).trans ?_
        refine (r_iconst (v := 1) rfl rfl rfl).trans ?_
        refine (r_iadd rfl rfl).trans ?_
        refine (r_putI (ci := 3) (sl := 2) rfl rfl rfl rfl (by decide)).trans ?_
        refine (r_iload_n rfl rfl rfl).trans ?_
        refine (r_bipush (v := 33) rfl rfl rfl).trans ?_
        refine (r_icmp_ne rfl rfl rfl).trans ?_
        refine ite_congr rfl (fun h_3 => ?_) (fun h_3 => ?_)
        · refine (r_aload_n rfl rfl rfl).trans ?_
          refine (r_iload_n rfl rfl rfl).trans ?_
          refine (r_iconst (v := 1) rfl rfl rfl).trans ?_
          refine (r_iadd rfl rfl).trans ?_
          exact r_inv (m := 51) (c := 3) rfl rfl rfl rfl rfl rfl rfl rfl
        · refine (r_aload_n rfl rfl rfl).trans ?_
          refine (r_iconst (v := 0) rfl rfl rfl).trans ?_
          refine (r_iload_n rfl rfl rfl).trans ?_
          refine (r_iconst (v := 1) rfl rfl rfl).trans ?_
          refine (r_iadd rfl rfl).trans ?_
          exact r_inv (m := 49) (c := 3) rfl rfl rfl rfl rfl rfl rfl rfl
      · refine (r_iload_n rfl rfl rfl).trans ?_
        refine (r_bipush (v := 40) rfl rfl rfl).trans ?_
        refine (r_icmp_eq rfl rfl rfl).trans ?_
        refine ite_congr rfl (fun h_3 => ?_) (fun h_3 => ?_)
        · refine (r_aload_n rfl rfl rfl).trans ?_
          refine (r_dupR rfl rfl).trans ?_
          refine (r_getI (ci := 3) (sl := 2) rfl rfl rfl rfl (by decide)).trans ?_
          refine (r_iconst (v := 1) rfl rfl rfl).trans ?_
          refine (r_iadd rfl rfl).trans ?_
          refine (r_putI (ci := 3) (sl := 2) rfl rfl rfl rfl (by decide)).trans ?_
          refine (r_iload_n rfl rfl rfl).trans ?_
          refine (r_bipush (v := 33) rfl rfl rfl).trans ?_
          refine (r_icmp_ne rfl rfl rfl).trans ?_
          refine ite_congr rfl (fun h_4 => ?_) (fun h_4 => ?_)
          · refine (r_aload_n rfl rfl rfl).trans ?_
            refine (r_iload_n rfl rfl rfl).trans ?_
            refine (r_iconst (v := 1) rfl rfl rfl).trans ?_
            refine (r_iadd rfl rfl).trans ?_
            exact r_inv (m := 51) (c := 3) rfl rfl rfl rfl rfl rfl rfl rfl
          · refine (r_aload_n rfl rfl rfl).trans ?_
            refine (r_iconst (v := 0) rfl rfl rfl).trans ?_
            refine (r_iload_n rfl rfl rfl).trans ?_
            refine (r_iconst (v := 1) rfl rfl rfl).trans ?_
            refine (r_iadd rfl rfl).trans ?_
            exact r_inv (m := 49) (c := 3) rfl rfl rfl rfl rfl rfl rfl rfl
        · refine (r_iconst (v := 0) rfl rfl rfl).trans ?_
          exact r_zret rfl rfl rfl
    · refine (r_iconst (v := 0) rfl rfl rfl).trans ?_
      exact r_zret rfl rfl rfl
  · refine (r_aload_n rfl rfl rfl).trans ?_
    refine (r_dupR rfl rfl).trans ?_
    refine (r_getI (ci := 3) (sl := 2) rfl rfl rfl rfl (by decide)).trans ?_
    refine (r_iconst (v := 1) rfl rfl rfl).trans ?_
    refine (r_iadd rfl rfl).trans ?_
    refine (r_putI (ci := 3) (sl := 2) rfl rfl rfl rfl (by decide)).trans ?_
    refine (r_aload_n rfl rfl rfl).trans ?_
    refine (r_getR (ci := 3) (sl := 3) s_E rfl rfl rfl rfl (by decide) rfl rfl).trans ?_
    refine (r_iconst (v := (-1)) rfl rfl rfl).trans ?_
    refine (r_iload_n rfl rfl rfl).trans ?_
    refine (r_isub rfl rfl).trans ?_
    exact r_inv (m := 59) (c := 4) rfl rfl rfl rfl rfl rfl rfl rfl

theorem sg_X3_readsInnermost_60 {d : Nat} {E : pEv} {ro : Nat → Nat → Int32} {Q : Option Value → pH → Prop} (s_E : oE E) {x1 : Int32} {x2 : Int32} {x3 : Int32} : wG d 50 (60, [.ref 81, .int x1, .int x2, .int x3], [], mkH E ro) Q = Q (some (.int 1)) (mkH E ro) := by
  refine (r_iconst (v := 1) rfl rfl rfl).trans ?_
  exact r_zret rfl rfl rfl

theorem sg_X3_readsInnermost_104 {d : Nat} {E : pEv} {ro : Nat → Nat → Int32} {Q : Option Value → pH → Prop} (s_E : oE E) {x1 : Int32} {x2 : Int32} {x3 : Int32} {xs0 : Int32} (b0 : (narrow .boolean (.int xs0) = .int xs0)) : wG d 50 (104, [.ref 81, .int x1, .int x2, .int x3], [.int xs0], mkH E ro) Q = Q (some (.int xs0)) (mkH E ro) := by
  refine (r_goto rfl rfl).trans ?_
  exact r_zret rfl rfl b0

theorem sg_X3_readsInnermost_115 {d : Nat} {E : pEv} {ro : Nat → Nat → Int32} {Q : Option Value → pH → Prop} (s_E : oE E) {x1 : Int32} {x2 : Int32} {x3 : Int32} {xs0 : Int32} : wG d 50 (115, [.ref 81, .int x1, .int x2, .int x3], [.int xs0], mkH E ro) Q = (if xs0 = 0 then Q (some (.int 0)) (mkH E ro) else wX d 52 [.ref 81] (mkH E ro) (fun v h' => wG d 50 (122, [.ref 81, .int x1, .int x2, .int x3], pv v [], h') Q)) := by
  refine (r_if_eq rfl rfl rfl).trans ?_
  refine ite_congr rfl (fun h_0 => ?_) (fun h_0 => ?_)
  · refine (r_iconst (v := 0) rfl rfl rfl).trans ?_
    exact r_zret rfl rfl rfl
  · refine (r_aload_n rfl rfl rfl).trans ?_
    exact r_inv (m := 52) (c := 3) rfl rfl rfl rfl rfl rfl rfl rfl

theorem sg_X3_readsInnermost_122 {d : Nat} {E : pEv} {ro : Nat → Nat → Int32} {Q : Option Value → pH → Prop} (s_E : oE E) {x1 : Int32} {x2 : Int32} {x3 : Int32} {xs0 : Int32} : wG d 50 (122, [.ref 81, .int x1, .int x2, .int x3], [.int xs0], mkH E ro) Q = (if xs0 = 0 then Q (some (.int 0)) (mkH E ro) else Q (some (.int 1)) (mkH E ro)) := by
  refine (r_if_eq rfl rfl rfl).trans ?_
  refine ite_congr rfl (fun h_0 => ?_) (fun h_0 => ?_)
  · refine (r_iconst (v := 0) rfl rfl rfl).trans ?_
    exact r_zret rfl rfl rfl
  · refine (r_iconst (v := 1) rfl rfl rfl).trans ?_
    refine (r_goto rfl rfl).trans ?_
    exact r_zret rfl rfl rfl

theorem en_X3_readsNegated {d : Nat} {E : pEv} {ro : Nat → Nat → Int32} {Q : Option Value → pH → Prop} (s_E : oE E) {x1 : Int32} : wX (d + 1) 51 [.ref 81, .int x1] (mkH E ro) Q = wX d 50 [.ref 81, .int x1] (mkH E ro) (fun v h' => wG d 51 (5, [.ref 81, .int x1], pv v [], h') Q) := by
  refine (wX_in rfl (by decide)).trans ?_
  show wG d 51 (0, [.ref 81, .int x1], [], mkH E ro) Q = _
  refine (r_aload_n rfl rfl rfl).trans ?_
  refine (r_iload_n rfl rfl rfl).trans ?_
  exact r_inv (m := 50) (c := 3) rfl rfl rfl rfl rfl rfl rfl rfl

theorem sg_X3_readsNegated_5 {d : Nat} {E : pEv} {ro : Nat → Nat → Int32} {Q : Option Value → pH → Prop} (s_E : oE E) {x1 : Int32} {xs0 : Int32} : wG d 51 (5, [.ref 81, .int x1], [.int xs0], mkH E ro) Q = (if xs0 = 0 then Q (some (.int 0)) (mkH E ro) else wX d 59 [.ref 82, .int (-33)] (mkH E ro) (fun v h' => wG d 51 (19, [.ref 81, .int x1], pv v [], h') Q)) := by
  refine (r_if_ne rfl rfl rfl).trans ?_
  refine ite_congr rfl (fun h_0 => ?_) (fun h_0 => ?_)
  · refine (r_iconst (v := 0) rfl rfl rfl).trans ?_
    exact r_zret rfl rfl rfl
  · refine (r_aload_n rfl rfl rfl).trans ?_
    refine (r_getR (ci := 3) (sl := 3) s_E rfl rfl rfl rfl (by decide) rfl rfl).trans ?_
    refine (r_bipush (v := (-33)) rfl rfl rfl).trans ?_
    exact r_inv (m := 59) (c := 4) rfl rfl rfl rfl rfl rfl rfl rfl

theorem sg_X3_readsNegated_19 {d : Nat} {E : pEv} {ro : Nat → Nat → Int32} {Q : Option Value → pH → Prop} (s_E : oE E) {x1 : Int32} : wG d 51 (19, [.ref 81, .int x1], [], mkH E ro) Q = Q (some (.int 1)) (mkH E ro) := by
  refine (r_iconst (v := 1) rfl rfl rfl).trans ?_
  exact r_zret rfl rfl rfl

theorem en_X3_readsClosing {d : Nat} {E : pEv} {ro : Nat → Nat → Int32} {Q : Option Value → pH → Prop} (s_E : oE E) : wX (d + 1) 52 [.ref 81] (mkH E ro) Q = wX d 47 [.ref 81] (mkH E ro) (fun v h' => wG d 52 (4, [.ref 81], pv v [], h') Q) := by
  refine (wX_in rfl (by decide)).trans ?_
  show wG d 52 (0, [.ref 81], [], mkH E ro) Q = _
  refine (r_aload_n rfl rfl rfl).trans ?_
  exact r_inv (m := 47) (c := 3) rfl rfl rfl rfl rfl rfl rfl rfl

theorem sg_X3_readsClosing_4 {d : Nat} {E : pEv} {ro : Nat → Nat → Int32} {Q : Option Value → pH → Prop} (s_E : oE E) {xs0 : Int32} : wG d 52 (4, [.ref 81], [.int xs0], mkH E ro) Q = (if xs0 = 41 then Q (some (.int 1)) (mkH E (uI ro 81 2 ((ro 81 2) + 1))) else Q (some (.int 0)) (mkH E ro)) := by
  refine (r_bipush (v := 41) rfl rfl rfl).trans ?_
  refine (r_icmp_eq rfl rfl rfl).trans ?_
  refine ite_congr rfl (fun h_0 => ?_) (fun h_0 => ?_)
  · refine (r_aload_n rfl rfl rfl).trans ?_
    refine (r_dupR rfl rfl).trans ?_
    refine (r_getI (ci := 3) (sl := 2) rfl rfl rfl rfl (by decide)).trans ?_
    refine (r_iconst (v := 1) rfl rfl rfl).trans ?_
    refine (r_iadd rfl rfl).trans ?_
    refine (r_putI (ci := 3) (sl := 2) rfl rfl rfl rfl (by decide)).trans ?_
    refine (r_iconst (v := 1) rfl rfl rfl).trans ?_
    exact r_zret rfl rfl rfl
  · refine (r_iconst (v := 0) rfl rfl rfl).trans ?_
    exact r_zret rfl rfl rfl

theorem en_X3_readNumber {d : Nat} {E : pEv} {ro : Nat → Nat → Int32} {Q : Option Value → pH → Prop} (s_E : oE E) : wX (d + 1) 53 [.ref 81] (mkH E ro) Q = wG d 53 (4, [.ref 81, .int 0, .int 0], [], mkH E ro) Q := by
  refine (wX_in rfl (by decide)).trans ?_
  show wG d 53 (0, [.ref 81, .retAddr 0, .retAddr 0], [], mkH E ro) Q = _
  refine (r_iconst (v := 0) rfl rfl rfl).trans ?_
  refine (r_istore_n rfl rfl rfl rfl).trans ?_
  refine (r_iconst (v := 0) rfl rfl rfl).trans ?_
  refine (r_istore_n rfl rfl rfl rfl).trans ?_
  exact rfl

theorem sg_X3_readNumber_4 {d : Nat} {E : pEv} {ro : Nat → Nat → Int32} {Q : Option Value → pH → Prop} (s_E : oE E) {x1 : Int32} {x2 : Int32} : wG d 53 (4, [.ref 81, .int x1, .int x2], [], mkH E ro) Q = (if x2 < 4 then wX d 47 [.ref 81] (mkH E ro) (fun v h' => wG d 53 (13, [.ref 81, .int x1, .int x2], pv v [], h') Q) else wX d 59 [.ref 82, .int x1] (mkH E ro) (fun v h' => wG d 53 (56, [.ref 81, .int x1, .int x2], pv v [], h') Q)) := by
  refine (r_iload_n rfl rfl rfl).trans ?_
  refine (r_iconst (v := 4) rfl rfl rfl).trans ?_
  refine (r_icmp_ge rfl rfl rfl).trans ?_
  refine ite_congr rfl (fun h_0 => ?_) (fun h_0 => ?_)
  · refine (r_aload_n rfl rfl rfl).trans ?_
    exact r_inv (m := 47) (c := 3) rfl rfl rfl rfl rfl rfl rfl rfl
  · refine (r_aload_n rfl rfl rfl).trans ?_
    refine (r_getR (ci := 3) (sl := 3) s_E rfl rfl rfl rfl (by decide) rfl rfl).trans ?_
    refine (r_iload_n rfl rfl rfl).trans ?_
    exact r_inv (m := 59) (c := 4) rfl rfl rfl rfl rfl rfl rfl rfl

theorem sg_X3_readNumber_13 {d : Nat} {E : pEv} {ro : Nat → Nat → Int32} {Q : Option Value → pH → Prop} (s_E : oE E) {x1 : Int32} {x2 : Int32} {xs0 : Int32} : wG d 53 (13, [.ref 81, .int x1, .int x2], [.int xs0], mkH E ro) Q = wX d 54 [.int xs0] (mkH E ro) (fun v h' => wG d 53 (16, [.ref 81, .int x1, .int x2], pv v [], h') Q) := by
  exact r_ins (m := 54) rfl rfl rfl rfl rfl rfl

theorem sg_X3_readNumber_16 {d : Nat} {E : pEv} {ro : Nat → Nat → Int32} {Q : Option Value → pH → Prop} (s_E : oE E) {x1 : Int32} {x2 : Int32} {xs0 : Int32} : wG d 53 (16, [.ref 81, .int x1, .int x2], [.int xs0], mkH E ro) Q = (if xs0 = 0 then wX d 59 [.ref 82, .int x1] (mkH E ro) (fun v h' => wG d 53 (56, [.ref 81, .int x1, .int x2], pv v [], h') Q) else wX d 47 [.ref 81] (mkH E ro) (fun v h' => wG d 53 (27, [.ref 81, .int x1, .int x2], pv v [.int (x1 * 10)], h') Q)) := by
  refine (r_if_eq rfl rfl rfl).trans ?_
  refine ite_congr rfl (fun h_0 => ?_) (fun h_0 => ?_)
  · refine (r_aload_n rfl rfl rfl).trans ?_
    refine (r_getR (ci := 3) (sl := 3) s_E rfl rfl rfl rfl (by decide) rfl rfl).trans ?_
    refine (r_iload_n rfl rfl rfl).trans ?_
    exact r_inv (m := 59) (c := 4) rfl rfl rfl rfl rfl rfl rfl rfl
  · refine (r_iload_n rfl rfl rfl).trans ?_
    refine (r_bipush (v := 10) rfl rfl rfl).trans ?_
    refine (r_imul rfl rfl).trans ?_
    refine (r_aload_n rfl rfl rfl).trans ?_
    exact r_inv (m := 47) (c := 3) rfl rfl rfl rfl rfl rfl rfl rfl

theorem sg_X3_readNumber_27 {d : Nat} {E : pEv} {ro : Nat → Nat → Int32} {Q : Option Value → pH → Prop} (s_E : oE E) {x1 : Int32} {x2 : Int32} {xs0 : Int32} {xs1 : Int32} : wG d 53 (27, [.ref 81, .int x1, .int x2], [.int xs1, .int xs0], mkH E ro) Q = wG d 53 (4, [.ref 81, .int ((xs0 + xs1) - 48), .int (x2 + 1)], [], mkH E (uI ro 81 2 ((ro 81 2) + 1))) Q := by
  refine (r_iadd rfl rfl).trans ?_
  refine (r_bipush (v := 48) rfl rfl rfl).trans ?_
  refine (r_isub rfl rfl).trans ?_
  refine (r_istore_n rfl rfl rfl rfl).trans ?_
  refine (r_aload_n rfl rfl rfl).trans ?_
  refine (r_dupR rfl rfl).trans ?_
  refine (r_getI (ci := 3) (sl := 2) rfl rfl rfl rfl (by decide)).trans ?_
  refine (r_iconst (v := 1) rfl rfl rfl).trans ?_
  refine (r_iadd rfl rfl).trans ?_
  refine (r_putI (ci := 3) (sl := 2) rfl rfl rfl rfl (by decide)).trans ?_
  refine (r_iinc (y := 1) rfl rfl rfl rfl rfl rfl).trans ?_
  refine (r_goto rfl rfl).trans ?_
  exact rfl

theorem sg_X3_readNumber_56 {d : Nat} {E : pEv} {ro : Nat → Nat → Int32} {Q : Option Value → pH → Prop} (s_E : oE E) {x1 : Int32} {x2 : Int32} : wG d 53 (56, [.ref 81, .int x1, .int x2], [], mkH E ro) Q = Q none (mkH E ro) := by
  exact r_vret rfl rfl

theorem en_X3_isDigit {d : Nat} {E : pEv} {ro : Nat → Nat → Int32} {Q : Option Value → pH → Prop} (s_E : oE E) {x0 : Int32} : wX (d + 1) 54 [.int x0] (mkH E ro) Q = (if x0 < 48 then Q (some (.int 0)) (mkH E ro) else (if 57 < x0 then Q (some (.int 0)) (mkH E ro) else Q (some (.int 1)) (mkH E ro))) := by
  refine (wX_in rfl (by decide)).trans ?_
  show wG d 54 (0, [.int x0], [], mkH E ro) Q = _
  refine (r_iload_n rfl rfl rfl).trans ?_
  refine (r_bipush (v := 48) rfl rfl rfl).trans ?_
  refine (r_icmp_lt rfl rfl rfl).trans ?_
  refine ite_congr rfl (fun h_0 => ?_) (fun h_0 => ?_)
  · refine (r_iconst (v := 0) rfl rfl rfl).trans ?_
    exact r_zret rfl rfl rfl
  · refine (r_iload_n rfl rfl rfl).trans ?_
    refine (r_bipush (v := 57) rfl rfl rfl).trans ?_
    refine (r_icmp_gt rfl rfl rfl).trans ?_
    refine ite_congr rfl (fun h_1 => ?_) (fun h_1 => ?_)
    · refine (r_iconst (v := 0) rfl rfl rfl).trans ?_
      exact r_zret rfl rfl rfl
    · refine (r_iconst (v := 1) rfl rfl rfl).trans ?_
      refine (r_goto rfl rfl).trans ?_
      exact r_zret rfl rfl rfl
theorem en_X8_leastChange {d : Nat} {E : pEv} {ro : Nat → Nat → Int32} {Q : Option Value → pH → Prop} (s_E : oE E) {x1 : Int32} {x2 : Int32} : wX (d + 1) 92 [.ref 78, .int x1, .int x2] (mkH E ro) Q = wX d 25 [.ref 11] (mkH E ro) (fun v h' => wG d 92 (7, [.ref 78, .int x1, .int x2, .retAddr 0, .retAddr 0, .retAddr 0, .retAddr 0, .retAddr 0], pv v [], h') Q) := by
  refine (wX_in rfl (by decide)).trans ?_
  show wG d 92 (0, [.ref 78, .int x1, .int x2, .retAddr 0, .retAddr 0, .retAddr 0, .retAddr 0, .retAddr 0], [], mkH E ro) Q = _
  refine (r_aload_n rfl rfl rfl).trans ?_
  refine (r_getR (ci := 8) (sl := 0) s_E rfl rfl rfl rfl (by decide) rfl rfl).trans ?_
  exact r_inv (m := 25) (c := 2) rfl rfl rfl rfl rfl rfl rfl rfl

theorem sg_X8_leastChange_7 {d : Nat} {E : pEv} {ro : Nat → Nat → Int32} {Q : Option Value → pH → Prop} (s_E : oE E) {x1 : Int32} {x2 : Int32} {v3 : Value} {v4 : Value} {v5 : Value} {v6 : Value} {v7 : Value} {xs0 : Int32} : wG d 92 (7, [.ref 78, .int x1, .int x2, v3, v4, v5, v6, v7], [.int xs0], mkH E ro) Q = wX d 24 [.ref 11] (mkH E ro) (fun v h' => wG d 92 (17, [.ref 78, .int x1, .int x2, .int (xs0 ^^^ (-1)), v4, v5, v6, v7], pv v [], h') Q) := by
  refine (r_iconst (v := (-1)) rfl rfl rfl).trans ?_
  refine (r_ixor rfl rfl).trans ?_
  refine (r_istore_n rfl rfl rfl rfl).trans ?_
  refine (r_aload_n rfl rfl rfl).trans ?_
  refine (r_getR (ci := 8) (sl := 0) s_E rfl rfl rfl rfl (by decide) rfl rfl).trans ?_
  exact r_inv (m := 24) (c := 2) rfl rfl rfl rfl rfl rfl rfl rfl

theorem sg_X8_leastChange_17 {d : Nat} {E : pEv} {ro : Nat → Nat → Int32} {Q : Option Value → pH → Prop} (s_E : oE E) {x1 : Int32} {x2 : Int32} {x3 : Int32} {v4 : Value} {v5 : Value} {v6 : Value} {v7 : Value} {xs0 : Int32} : wG d 92 (17, [.ref 78, .int x1, .int x2, .int x3, v4, v5, v6, v7], [.int xs0], mkH E ro) Q = wG d 92 (25, [.ref 78, .int x1, .int x2, .int x3, .int xs0, .int (-1), .int 0, v7], [], mkH E ro) Q := by
  refine (r_istore rfl rfl rfl rfl).trans ?_
  refine (r_iconst (v := (-1)) rfl rfl rfl).trans ?_
  refine (r_istore rfl rfl rfl rfl).trans ?_
  refine (r_iconst (v := 0) rfl rfl rfl).trans ?_
  refine (r_istore rfl rfl rfl rfl).trans ?_
  exact rfl

theorem sg_X8_leastChange_25 {d : Nat} {E : pEv} {ro : Nat → Nat → Int32} {Q : Option Value → pH → Prop} (s_E : oE E) {x1 : Int32} {x2 : Int32} {x3 : Int32} {x4 : Int32} {x5 : Int32} {x6 : Int32} {v7 : Value} : wG d 92 (25, [.ref 78, .int x1, .int x2, .int x3, .int x4, .int x5, .int x6, v7], [], mkH E ro) Q = wX d 22 [.ref 11] (mkH E ro) (fun v h' => wG d 92 (34, [.ref 78, .int x1, .int x2, .int x3, .int x4, .int x5, .int x6, v7], pv v [.int x6], h') Q) := by
  refine (r_iload rfl rfl rfl).trans ?_
  refine (r_aload_n rfl rfl rfl).trans ?_
  refine (r_getR (ci := 8) (sl := 0) s_E rfl rfl rfl rfl (by decide) rfl rfl).trans ?_
  exact r_inv (m := 22) (c := 2) rfl rfl rfl rfl rfl rfl rfl rfl

theorem sg_X8_leastChange_34 {d : Nat} {E : pEv} {ro : Nat → Nat → Int32} {Q : Option Value → pH → Prop} (s_E : oE E) {x1 : Int32} {x2 : Int32} {x3 : Int32} {x4 : Int32} {x5 : Int32} {x6 : Int32} {v7 : Value} {xs0 : Int32} {xs1 : Int32} : wG d 92 (34, [.ref 78, .int x1, .int x2, .int x3, .int x4, .int x5, .int x6, v7], [.int xs1, .int xs0], mkH E ro) Q = (if xs1 < xs0 then Q (some (.int x5)) (mkH E ro) else (if x5 < 0 then (if (x6 &&& x3) = 0 then wX d 27 [.ref 11, .int (x4 ^^^ x6), .int (-1), .int 0] (mkH E ro) (fun v h' => wG d 92 (88, [.ref 78, .int x1, .int x2, .int x3, .int x4, .int x5, .int x6, .int 1], pv v [], h') Q) else wG d 92 (25, [.ref 78, .int x1, .int x2, .int x3, .int x4, .int x5, .int (x6 + 1), .int 1], [], mkH E ro) Q) else wX d 255 [.int x6] (mkH E ro) (fun v h' => wG d 92 (47, [.ref 78, .int x1, .int x2, .int x3, .int x4, .int x5, .int x6, v7], pv v [], h') Q))) := by
  refine (r_icmp_gt rfl rfl rfl).trans ?_
  refine ite_congr rfl (fun h_0 => ?_) (fun h_0 => ?_)
  · refine (r_iload rfl rfl rfl).trans ?_
    exact r_iret rfl rfl
  · refine (r_iload rfl rfl rfl).trans ?_
    refine (r_if_lt rfl rfl rfl).trans ?_
    refine ite_congr rfl (fun h_1 => ?_) (fun h_1 => ?_)
    · refine (r_iconst (v := 1) rfl rfl rfl).trans ?_
      refine (r_goto rfl rfl).trans ?_
      refine (r_istore rfl rfl rfl rfl).trans ?_
      refine (r_iload rfl rfl rfl).trans ?_
      refine (r_iload_n rfl rfl rfl).trans ?_
      refine (r_iand rfl rfl).trans ?_
      refine (r_if_ne rfl rfl rfl).trans ?_
      refine ite_congr rfl (fun h_2 => ?_) (fun h_2 => ?_)
      · refine (r_iload rfl rfl rfl).trans ?_
        refine (r_if_eq rfl rfl rfl).trans ?_
        refine (if_neg (by decide)).trans ?_
        refine (r_aload_n rfl rfl rfl).trans ?_
        refine (r_getR (ci := 8) (sl := 0) s_E rfl rfl rfl rfl (by decide) rfl rfl).trans ?_
        refine (r_iload rfl rfl rfl).trans ?_
        refine (r_iload rfl rfl rfl).trans ?_
        refine (r_ixor rfl rfl).trans ?_
        refine (r_iconst (v := (-1)) rfl rfl rfl).trans ?_
        refine (r_iconst (v := 0) rfl rfl rfl).trans ?_
        exact r_inv (m := 27) (c := 2) rfl rfl rfl rfl rfl rfl rfl rfl
      · refine (r_iinc (y := 1) rfl rfl rfl rfl rfl rfl).trans ?_
        refine (r_goto rfl rfl).trans ?_
        exact rfl
    · refine (r_iload rfl rfl rfl).trans ?_
      exact r_ins (m := 255) rfl rfl rfl rfl rfl rfl

theorem sg_X8_leastChange_47 {d : Nat} {E : pEv} {ro : Nat → Nat → Int32} {Q : Option Value → pH → Prop} (s_E : oE E) {x1 : Int32} {x2 : Int32} {x3 : Int32} {x4 : Int32} {x5 : Int32} {x6 : Int32} {v7 : Value} {xs0 : Int32} : wG d 92 (47, [.ref 78, .int x1, .int x2, .int x3, .int x4, .int x5, .int x6, v7], [.int xs0], mkH E ro) Q = wX d 255 [.int x5] (mkH E ro) (fun v h' => wG d 92 (52, [.ref 78, .int x1, .int x2, .int x3, .int x4, .int x5, .int x6, v7], pv v [.int xs0], h') Q) := by
  refine (r_iload rfl rfl rfl).trans ?_
  exact r_ins (m := 255) rfl rfl rfl rfl rfl rfl

theorem sg_X8_leastChange_52 {d : Nat} {E : pEv} {ro : Nat → Nat → Int32} {Q : Option Value → pH → Prop} (s_E : oE E) {x1 : Int32} {x2 : Int32} {x3 : Int32} {x4 : Int32} {x5 : Int32} {x6 : Int32} {v7 : Value} {xs0 : Int32} {xs1 : Int32} : wG d 92 (52, [.ref 78, .int x1, .int x2, .int x3, .int x4, .int x5, .int x6, v7], [.int xs1, .int xs0], mkH E ro) Q = (if xs0 < xs1 then (if (x6 &&& x3) = 0 then wX d 27 [.ref 11, .int (x4 ^^^ x6), .int (-1), .int 0] (mkH E ro) (fun v h' => wG d 92 (88, [.ref 78, .int x1, .int x2, .int x3, .int x4, .int x5, .int x6, .int 1], pv v [], h') Q) else wG d 92 (25, [.ref 78, .int x1, .int x2, .int x3, .int x4, .int x5, .int (x6 + 1), .int 1], [], mkH E ro) Q) else (if (x6 &&& x3) = 0 then wG d 92 (25, [.ref 78, .int x1, .int x2, .int x3, .int x4, .int x5, .int (x6 + 1), .int 0], [], mkH E ro) Q else wG d 92 (25, [.ref 78, .int x1, .int x2, .int x3, .int x4, .int x5, .int (x6 + 1), .int 0], [], mkH E ro) Q)) := by
  refine (r_icmp_ge rfl rfl rfl).trans ?_
  refine ite_congr rfl (fun h_0 => ?_) (fun h_0 => ?_)
  · refine (r_iconst (v := 1) rfl rfl rfl).trans ?_
    refine (r_goto rfl rfl).trans ?_
    refine (r_istore rfl rfl rfl rfl).trans ?_
    refine (r_iload rfl rfl rfl).trans ?_
    refine (r_iload_n rfl rfl rfl).trans ?_
    refine (r_iand rfl rfl).trans ?_
    refine (r_if_ne rfl rfl rfl).trans ?_
    refine ite_congr rfl (fun h_1 => ?_) (fun h_1 => ?_)
    · refine (r_iload rfl rfl rfl).trans ?_
      refine (r_if_eq rfl rfl rfl).trans ?_
      refine (if_neg (by decide)).trans ?_
      refine (r_aload_n rfl rfl rfl).trans ?_
      refine (r_getR (ci := 8) (sl := 0) s_E rfl rfl rfl rfl (by decide) rfl rfl).trans ?_
      refine (r_iload rfl rfl rfl).trans ?_
      refine (r_iload rfl rfl rfl).trans ?_
      refine (r_ixor rfl rfl).trans ?_
      refine (r_iconst (v := (-1)) rfl rfl rfl).trans ?_
      refine (r_iconst (v := 0) rfl rfl rfl).trans ?_
      exact r_inv (m := 27) (c := 2) rfl rfl rfl rfl rfl rfl rfl rfl
    · refine (r_iinc (y := 1) rfl rfl rfl rfl rfl rfl).trans ?_
      refine (r_goto rfl rfl).trans ?_
      exact rfl
  · refine (r_iconst (v := 0) rfl rfl rfl).trans ?_
    refine (r_istore rfl rfl rfl rfl).trans ?_
    refine (r_iload rfl rfl rfl).trans ?_
    refine (r_iload_n rfl rfl rfl).trans ?_
    refine (r_iand rfl rfl).trans ?_
    refine (r_if_ne rfl rfl rfl).trans ?_
    refine ite_congr rfl (fun h_1 => ?_) (fun h_1 => ?_)
    · refine (r_iload rfl rfl rfl).trans ?_
      refine (r_if_eq rfl rfl rfl).trans ?_
      refine (if_pos (by decide)).trans ?_
      refine (r_iinc (y := 1) rfl rfl rfl rfl rfl rfl).trans ?_
      refine (r_goto rfl rfl).trans ?_
      exact rfl
    · refine (r_iinc (y := 1) rfl rfl rfl rfl rfl rfl).trans ?_
      refine (r_goto rfl rfl).trans ?_
      exact rfl

theorem sg_X8_leastChange_88 {d : Nat} {E : pEv} {ro : Nat → Nat → Int32} {Q : Option Value → pH → Prop} (s_E : oE E) {x1 : Int32} {x2 : Int32} {x3 : Int32} {x4 : Int32} {x5 : Int32} {x6 : Int32} {x7 : Int32} {xs0 : Int32} : wG d 92 (88, [.ref 78, .int x1, .int x2, .int x3, .int x4, .int x5, .int x6, .int x7], [.int xs0], mkH E ro) Q = (if ((xs0 >>> (x1 &&& 31)) &&& 1) = x2 then wG d 92 (25, [.ref 78, .int x1, .int x2, .int x3, .int x4, .int x6, .int (x6 + 1), .int x7], [], mkH E ro) Q else wG d 92 (25, [.ref 78, .int x1, .int x2, .int x3, .int x4, .int x5, .int (x6 + 1), .int x7], [], mkH E ro) Q) := by
  refine (r_iload_n rfl rfl rfl).trans ?_
  refine (r_ishr rfl rfl).trans ?_
  refine (r_iconst (v := 1) rfl rfl rfl).trans ?_
  refine (r_iand rfl rfl).trans ?_
  refine (r_iload_n rfl rfl rfl).trans ?_
  refine (r_icmp_ne rfl rfl rfl).trans ?_
  refine ite_congr rfl (fun h_0 => ?_) (fun h_0 => ?_)
  · refine (r_iload rfl rfl rfl).trans ?_
    refine (r_istore rfl rfl rfl rfl).trans ?_
    refine (r_iinc (y := 1) rfl rfl rfl rfl rfl rfl).trans ?_
    refine (r_goto rfl rfl).trans ?_
    exact rfl
  · refine (r_iinc (y := 1) rfl rfl rfl rfl rfl rfl).trans ?_
    refine (r_goto rfl rfl).trans ?_
    exact rfl

theorem en_X8_compare {d : Nat} {E : pEv} {ro : Nat → Nat → Int32} {Q : Option Value → pH → Prop} (s_E : oE E) : wX (d + 1) 93 [.ref 78] (mkH E ro) Q = wX d 25 [.ref 11] (mkH E ro) (fun v h' => wG d 93 (7, [.ref 78, .retAddr 0, .retAddr 0, .retAddr 0], pv v [], h') Q) := by
  refine (wX_in rfl (by decide)).trans ?_
  show wG d 93 (0, [.ref 78, .retAddr 0, .retAddr 0, .retAddr 0], [], mkH E ro) Q = _
  refine (r_aload_n rfl rfl rfl).trans ?_
  refine (r_getR (ci := 8) (sl := 0) s_E rfl rfl rfl rfl (by decide) rfl rfl).trans ?_
  exact r_inv (m := 25) (c := 2) rfl rfl rfl rfl rfl rfl rfl rfl

theorem sg_X8_compare_7 {d : Nat} {E : pEv} {ro : Nat → Nat → Int32} {Q : Option Value → pH → Prop} (s_E : oE E) {v1 : Value} {v2 : Value} {v3 : Value} {xs0 : Int32} : wG d 93 (7, [.ref 78, v1, v2, v3], [.int xs0], mkH E ro) Q = wX d 26 [.ref 11] (mkH E ro) (fun v h' => wG d 93 (17, [.ref 78, .int (xs0 ^^^ (-1)), v2, v3], pv v [], h') Q) := by
  refine (r_iconst (v := (-1)) rfl rfl rfl).trans ?_
  refine (r_ixor rfl rfl).trans ?_
  refine (r_istore_n rfl rfl rfl rfl).trans ?_
  refine (r_aload_n rfl rfl rfl).trans ?_
  refine (r_getR (ci := 8) (sl := 0) s_E rfl rfl rfl rfl (by decide) rfl rfl).trans ?_
  exact r_inv (m := 26) (c := 2) rfl rfl rfl rfl rfl rfl rfl rfl

theorem sg_X8_compare_17 {d : Nat} {E : pEv} {ro : Nat → Nat → Int32} {Q : Option Value → pH → Prop} (s_E : oE E) {x1 : Int32} {v2 : Value} {v3 : Value} {xs0 : Int32} : wG d 93 (17, [.ref 78, .int x1, v2, v3], [.int xs0], mkH E ro) Q = wX d 66 [.ref 79] (mkH E ro) (fun v h' => wG d 93 (25, [.ref 78, .int x1, .int xs0, v3], pv v [], h') Q) := by
  refine (r_istore_n rfl rfl rfl rfl).trans ?_
  refine (r_aload_n rfl rfl rfl).trans ?_
  refine (r_getR (ci := 8) (sl := 1) s_E rfl rfl rfl rfl (by decide) rfl rfl).trans ?_
  exact r_inv (m := 66) (c := 4) rfl rfl rfl rfl rfl rfl rfl rfl

theorem sg_X8_compare_25 {d : Nat} {E : pEv} {ro : Nat → Nat → Int32} {Q : Option Value → pH → Prop} (s_E : oE E) {x1 : Int32} {x2 : Int32} {v3 : Value} : wG d 93 (25, [.ref 78, .int x1, .int x2, v3], [], mkH E ro) Q = wG d 93 (27, [.ref 78, .int x1, .int x2, .int 0], [], mkH E ro) Q := by
  refine (r_iconst (v := 0) rfl rfl rfl).trans ?_
  refine (r_istore_n rfl rfl rfl rfl).trans ?_
  exact rfl

theorem sg_X8_compare_27 {d : Nat} {E : pEv} {ro : Nat → Nat → Int32} {Q : Option Value → pH → Prop} (s_E : oE E) {x1 : Int32} {x2 : Int32} {x3 : Int32} : wG d 93 (27, [.ref 78, .int x1, .int x2, .int x3], [], mkH E ro) Q = wX d 22 [.ref 11] (mkH E ro) (fun v h' => wG d 93 (35, [.ref 78, .int x1, .int x2, .int x3], pv v [.int x3], h') Q) := by
  refine (r_iload_n rfl rfl rfl).trans ?_
  refine (r_aload_n rfl rfl rfl).trans ?_
  refine (r_getR (ci := 8) (sl := 0) s_E rfl rfl rfl rfl (by decide) rfl rfl).trans ?_
  exact r_inv (m := 22) (c := 2) rfl rfl rfl rfl rfl rfl rfl rfl

theorem sg_X8_compare_35 {d : Nat} {E : pEv} {ro : Nat → Nat → Int32} {Q : Option Value → pH → Prop} (s_E : oE E) {x1 : Int32} {x2 : Int32} {x3 : Int32} {xs0 : Int32} {xs1 : Int32} : wG d 93 (35, [.ref 78, .int x1, .int x2, .int x3], [.int xs1, .int xs0], mkH E ro) Q = (if xs1 < xs0 then Q none (mkH E ro) else (if (x3 &&& x1) = 0 then wX d 27 [.ref 11, .int x3, .int (-1), .int 0] (mkH E ro) (fun v h' => wG d 93 (58, [.ref 78, .int x1, .int x2, .int x3], pv v [.ref 79], h') Q) else wG d 93 (27, [.ref 78, .int x1, .int x2, .int (x3 + 1)], [], mkH E ro) Q)) := by
  refine (r_icmp_gt rfl rfl rfl).trans ?_
  refine ite_congr rfl (fun h_0 => ?_) (fun h_0 => ?_)
  · exact r_vret rfl rfl
  · refine (r_iload_n rfl rfl rfl).trans ?_
    refine (r_iload_n rfl rfl rfl).trans ?_
    refine (r_iand rfl rfl).trans ?_
    refine (r_if_ne rfl rfl rfl).trans ?_
    refine ite_congr rfl (fun h_1 => ?_) (fun h_1 => ?_)
    · refine (r_aload_n rfl rfl rfl).trans ?_
      refine (r_getR (ci := 8) (sl := 1) s_E rfl rfl rfl rfl (by decide) rfl rfl).trans ?_
      refine (r_aload_n rfl rfl rfl).trans ?_
      refine (r_getR (ci := 8) (sl := 0) s_E rfl rfl rfl rfl (by decide) rfl rfl).trans ?_
      refine (r_iload_n rfl rfl rfl).trans ?_
      refine (r_iconst (v := (-1)) rfl rfl rfl).trans ?_
      refine (r_iconst (v := 0) rfl rfl rfl).trans ?_
      exact r_inv (m := 27) (c := 2) rfl rfl rfl rfl rfl rfl rfl rfl
    · refine (r_iinc (y := 1) rfl rfl rfl rfl rfl rfl).trans ?_
      refine (r_goto rfl rfl).trans ?_
      exact rfl

theorem sg_X8_compare_58 {d : Nat} {E : pEv} {ro : Nat → Nat → Int32} {Q : Option Value → pH → Prop} (s_E : oE E) {x1 : Int32} {x2 : Int32} {x3 : Int32} {xs1 : Int32} : wG d 93 (58, [.ref 78, .int x1, .int x2, .int x3], [.int xs1, .ref 79], mkH E ro) Q = wX d 59 [.ref 79, .int (xs1 ^^^ x2)] (mkH E ro) (fun v h' => wG d 93 (63, [.ref 78, .int x1, .int x2, .int x3], pv v [], h') Q) := by
  refine (r_iload_n rfl rfl rfl).trans ?_
  refine (r_ixor rfl rfl).trans ?_
  exact r_inv (m := 59) (c := 4) rfl rfl rfl rfl rfl rfl rfl rfl

theorem sg_X8_compare_63 {d : Nat} {E : pEv} {ro : Nat → Nat → Int32} {Q : Option Value → pH → Prop} (s_E : oE E) {x1 : Int32} {x2 : Int32} {x3 : Int32} : wG d 93 (63, [.ref 78, .int x1, .int x2, .int x3], [], mkH E ro) Q = wG d 93 (27, [.ref 78, .int x1, .int x2, .int (x3 + 1)], [], mkH E ro) Q := by
  refine (r_iinc (y := 1) rfl rfl rfl rfl rfl rfl).trans ?_
  refine (r_goto rfl rfl).trans ?_
  exact rfl

theorem en_X8_likeUpTo {d : Nat} {E : pEv} {ro : Nat → Nat → Int32} {Q : Option Value → pH → Prop} (s_E : oE E) {x1 : Int32} : wX (d + 1) 94 [.ref 78, .int x1] (mkH E ro) Q = wX d 31 [.ref 11, .int x1] (mkH E ro) (fun v h' => wG d 94 (8, [.ref 78, .int x1, .retAddr 0, .retAddr 0, .retAddr 0], pv v [], h') Q) := by
  refine (wX_in rfl (by decide)).trans ?_
  show wG d 94 (0, [.ref 78, .int x1, .retAddr 0, .retAddr 0, .retAddr 0], [], mkH E ro) Q = _
  refine (r_aload_n rfl rfl rfl).trans ?_
  refine (r_getR (ci := 8) (sl := 0) s_E rfl rfl rfl rfl (by decide) rfl rfl).trans ?_
  refine (r_iload_n rfl rfl rfl).trans ?_
  exact r_inv (m := 31) (c := 2) rfl rfl rfl rfl rfl rfl rfl rfl

theorem sg_X8_likeUpTo_8 {d : Nat} {E : pEv} {ro : Nat → Nat → Int32} {Q : Option Value → pH → Prop} (s_E : oE E) {x1 : Int32} {v2 : Value} {v3 : Value} {v4 : Value} {xs0 : Int32} : wG d 94 (8, [.ref 78, .int x1, v2, v3, v4], [.int xs0], mkH E ro) Q = wG d 94 (14, [.ref 78, .int x1, .int xs0, .int 0, .int 0], [], mkH E ro) Q := by
  refine (r_istore_n rfl rfl rfl rfl).trans ?_
  refine (r_iconst (v := 0) rfl rfl rfl).trans ?_
  refine (r_istore_n rfl rfl rfl rfl).trans ?_
  refine (r_iconst (v := 0) rfl rfl rfl).trans ?_
  refine (r_istore rfl rfl rfl rfl).trans ?_
  exact rfl

theorem sg_X8_likeUpTo_14 {d : Nat} {E : pEv} {ro : Nat → Nat → Int32} {Q : Option Value → pH → Prop} (s_E : oE E) {x1 : Int32} {x2 : Int32} {x3 : Int32} {x4 : Int32} : wG d 94 (14, [.ref 78, .int x1, .int x2, .int x3, .int x4], [], mkH E ro) Q = (if x4 < (ro 79 1) then wX d 57 [.ref 79, .int x4] (mkH E ro) (fun v h' => wG d 94 (36, [.ref 78, .int x1, .int x2, .int x3, .int x4], pv v [.int x3], h') Q) else Q (some (.int x3)) (mkH E ro)) := by
  refine (r_iload rfl rfl rfl).trans ?_
  refine (r_aload_n rfl rfl rfl).trans ?_
  refine (r_getR (ci := 8) (sl := 1) s_E rfl rfl rfl rfl (by decide) rfl rfl).trans ?_
  refine (r_getI (ci := 4) (sl := 1) rfl rfl rfl rfl (by decide)).trans ?_
  refine (r_icmp_ge rfl rfl rfl).trans ?_
  refine ite_congr rfl (fun h_0 => ?_) (fun h_0 => ?_)
  · refine (r_iload_n rfl rfl rfl).trans ?_
    refine (r_aload_n rfl rfl rfl).trans ?_
    refine (r_getR (ci := 8) (sl := 1) s_E rfl rfl rfl rfl (by decide) rfl rfl).trans ?_
    refine (r_iload rfl rfl rfl).trans ?_
    exact r_inv (m := 57) (c := 4) rfl rfl rfl rfl rfl rfl rfl rfl
  · refine (r_iload_n rfl rfl rfl).trans ?_
    exact r_iret rfl rfl

theorem sg_X8_likeUpTo_36 {d : Nat} {E : pEv} {ro : Nat → Nat → Int32} {Q : Option Value → pH → Prop} (s_E : oE E) {x1 : Int32} {x2 : Int32} {x3 : Int32} {x4 : Int32} {xs0 : Int32} {xs1 : Int32} : wG d 94 (36, [.ref 78, .int x1, .int x2, .int x3, .int x4], [.int xs1, .int xs0], mkH E ro) Q = (if (xs1 &&& x2) = 0 then wX d 148 [.int 1] (mkH E ro) (fun v h' => wG d 94 (49, [.ref 78, .int x1, .int x2, .int x3, .int x4], pv v [.int xs0], h') Q) else wX d 148 [.int 0] (mkH E ro) (fun v h' => wG d 94 (49, [.ref 78, .int x1, .int x2, .int x3, .int x4], pv v [.int xs0], h') Q)) := by
  refine (r_iload_n rfl rfl rfl).trans ?_
  refine (r_iand rfl rfl).trans ?_
  refine (r_if_ne rfl rfl rfl).trans ?_
  refine ite_congr rfl (fun h_0 => ?_) (fun h_0 => ?_)
  · refine (r_iconst (v := 1) rfl rfl rfl).trans ?_
    refine (r_goto rfl rfl).trans ?_
    exact r_ins (m := 148) rfl rfl rfl rfl rfl rfl
  · refine (r_iconst (v := 0) rfl rfl rfl).trans ?_
    exact r_ins (m := 148) rfl rfl rfl rfl rfl rfl

theorem sg_X8_likeUpTo_49 {d : Nat} {E : pEv} {ro : Nat → Nat → Int32} {Q : Option Value → pH → Prop} (s_E : oE E) {x1 : Int32} {x2 : Int32} {x3 : Int32} {x4 : Int32} {xs0 : Int32} {xs1 : Int32} : wG d 94 (49, [.ref 78, .int x1, .int x2, .int x3, .int x4], [.int xs1, .int xs0], mkH E ro) Q = wG d 94 (14, [.ref 78, .int x1, .int x2, .int (xs0 + xs1), .int (x4 + 1)], [], mkH E ro) Q := by
  refine (r_iadd rfl rfl).trans ?_
  refine (r_istore_n rfl rfl rfl rfl).trans ?_
  refine (r_iinc (y := 1) rfl rfl rfl rfl rfl rfl).trans ?_
  refine (r_goto rfl rfl).trans ?_
  exact rfl
theorem en_X0_has {d : Nat} {E : pEv} {ro : Nat → Nat → Int32} {Q : Option Value → pH → Prop} (s_E : oE E) {x0 : Int32} {x1 : Int32} : wX (d + 1) 1 [.int x0, .int x1] (mkH E ro) Q = (if ((x0 >>> (x1 &&& 31)) &&& 1) = 1 then Q (some (.int 1)) (mkH E ro) else Q (some (.int 0)) (mkH E ro)) := by
  refine (wX_in rfl (by decide)).trans ?_
  show wG d 1 (0, [.int x0, .int x1], [], mkH E ro) Q = _
  refine (r_iload_n rfl rfl rfl).trans ?_
  refine (r_iload_n rfl rfl rfl).trans ?_
  refine (r_ishr rfl rfl).trans ?_
  refine (r_iconst (v := 1) rfl rfl rfl).trans ?_
  refine (r_iand rfl rfl).trans ?_
  refine (r_iconst (v := 1) rfl rfl rfl).trans ?_
  refine (r_icmp_ne rfl rfl rfl).trans ?_
  refine ite_congr rfl (fun h_0 => ?_) (fun h_0 => ?_)
  · refine (r_iconst (v := 1) rfl rfl rfl).trans ?_
    refine (r_goto rfl rfl).trans ?_
    exact r_zret rfl rfl rfl
  · refine (r_iconst (v := 0) rfl rfl rfl).trans ?_
    exact r_zret rfl rfl rfl

theorem en_X0_waysOf {d : Nat} {E : pEv} {ro : Nat → Nat → Int32} {Q : Option Value → pH → Prop} (s_E : oE E) {x0 : Int32} : wX (d + 1) 2 [.int x0] (mkH E ro) Q = wX d 146 [.int x0, .int 0, .int (8 - 1)] (mkH E ro) (fun v h' => wG d 2 (11, [.int x0], pv v [], h') Q) := by
  refine (wX_in rfl (by decide)).trans ?_
  show wG d 2 (0, [.int x0], [], mkH E ro) Q = _
  refine (r_iload_n rfl rfl rfl).trans ?_
  refine (r_iconst (v := 0) rfl rfl rfl).trans ?_
  refine (r_gets (q := 7) rfl rfl rfl).trans ?_
  refine (r_alen (v := 8) rfl rfl rfl (by decide) (by decide) rfl).trans ?_
  refine (r_iconst (v := 1) rfl rfl rfl).trans ?_
  refine (r_isub rfl rfl).trans ?_
  exact r_ins (m := 146) rfl rfl rfl rfl rfl rfl

theorem sg_X0_waysOf_11 {d : Nat} {E : pEv} {ro : Nat → Nat → Int32} {Q : Option Value → pH → Prop} (s_E : oE E) {x0 : Int32} {xs0 : Int32} (b0 : (¬ xs0 = 0) → (¬ x0 < 0 ∧ x0.toNatClampNeg < 8)) : wG d 2 (11, [.int x0], [.int xs0], mkH E ro) Q = (if xs0 = 0 then Q (some (.int 0)) (mkH E ro) else Q (some (.int (exI E.2.1 7 x0.toNatClampNeg))) (mkH E ro)) := by
  refine (r_if_eq rfl rfl rfl).trans ?_
  refine ite_congr rfl (fun h_0 => ?_) (fun h_0 => ?_)
  · refine (r_iconst (v := 0) rfl rfl rfl).trans ?_
    exact r_iret rfl rfl
  · refine (r_gets (q := 7) rfl rfl rfl).trans ?_
    refine (r_iload_n rfl rfl rfl).trans ?_
    refine (r_ialdT rfl rfl rfl (by decide) (b0 h_0)).trans ?_
    refine (r_goto rfl rfl).trans ?_
    exact r_iret rfl rfl

theorem en_X0_askGuesses {d : Nat} {E : pEv} {ro : Nat → Nat → Int32} {Q : Option Value → pH → Prop} (s_E : oE E) : wX (d + 1) 3 [.ref 65] (mkH E ro) Q = wG d 3 (2, [.ref 65, .int 0, .retAddr 0], [], mkH E ro) Q := by
  refine (wX_in rfl (by decide)).trans ?_
  show wG d 3 (0, [.ref 65, .retAddr 0, .retAddr 0], [], mkH E ro) Q = _
  refine (r_iconst (v := 0) rfl rfl rfl).trans ?_
  refine (r_istore_n rfl rfl rfl rfl).trans ?_
  exact rfl

theorem sg_X0_askGuesses_2 {d : Nat} {E : pEv} {ro : Nat → Nat → Int32} {Q : Option Value → pH → Prop} (s_E : oE E) {x1 : Int32} {v2 : Value} : wG d 3 (2, [.ref 65, .int x1, v2], [], mkH E ro) Q = (if x1 < (ro 11 7) then wG d 3 (15, [.ref 65, .int x1, .int 0], [], mkH E ro) Q else Q none (mkH E ro)) := by
  refine (r_iload_n rfl rfl rfl).trans ?_
  refine (r_aload_n rfl rfl rfl).trans ?_
  refine (r_getR (ci := 0) (sl := 0) s_E rfl rfl rfl rfl (by decide) rfl rfl).trans ?_
  refine (r_getI (ci := 2) (sl := 7) rfl rfl rfl rfl (by decide)).trans ?_
  refine (r_icmp_ge rfl rfl rfl).trans ?_
  refine ite_congr rfl (fun h_0 => ?_) (fun h_0 => ?_)
  · refine (r_iconst (v := 0) rfl rfl rfl).trans ?_
    refine (r_istore_n rfl rfl rfl rfl).trans ?_
    exact rfl
  · exact r_vret rfl rfl

theorem sg_X0_askGuesses_15 {d : Nat} {E : pEv} {ro : Nat → Nat → Int32} {Q : Option Value → pH → Prop} (s_E : oE E) {x1 : Int32} {x2 : Int32} : wG d 3 (15, [.ref 65, .int x1, .int x2], [], mkH E ro) Q = (if x1 < x2 then wG d 3 (2, [.ref 65, .int (x1 + 1), .int x2], [], mkH E ro) Q else wX d 33 [.ref 11, .int x1, .int x2] (mkH E ro) (fun v h' => wG d 3 (39, [.ref 65, .int x1, .int x2], pv v [.int ((x1 * 7) + x2), .ref 66], h') Q)) := by
  refine (r_iload_n rfl rfl rfl).trans ?_
  refine (r_iload_n rfl rfl rfl).trans ?_
  refine (r_icmp_gt rfl rfl rfl).trans ?_
  refine ite_congr rfl (fun h_0 => ?_) (fun h_0 => ?_)
  · refine (r_iinc (y := 1) rfl rfl rfl rfl rfl rfl).trans ?_
    refine (r_goto rfl rfl).trans ?_
    exact rfl
  · refine (r_aload_n rfl rfl rfl).trans ?_
    refine (r_getR (ci := 0) (sl := 1) s_E rfl rfl rfl rfl (by decide) rfl rfl).trans ?_
    refine (r_iload_n rfl rfl rfl).trans ?_
    refine (r_bipush (v := 7) rfl rfl rfl).trans ?_
    refine (r_imul rfl rfl).trans ?_
    refine (r_iload_n rfl rfl rfl).trans ?_
    refine (r_iadd rfl rfl).trans ?_
    refine (r_aload_n rfl rfl rfl).trans ?_
    refine (r_getR (ci := 0) (sl := 0) s_E rfl rfl rfl rfl (by decide) rfl rfl).trans ?_
    refine (r_iload_n rfl rfl rfl).trans ?_
    refine (r_iload_n rfl rfl rfl).trans ?_
    exact r_inv (m := 33) (c := 2) rfl rfl rfl rfl rfl rfl rfl rfl

theorem sg_X0_askGuesses_39 {d : Nat} {E : pEv} {ro : Nat → Nat → Int32} {Q : Option Value → pH → Prop} (s_E : oE E) {x1 : Int32} {x2 : Int32} {xs1 : Int32} {xs2 : Int32} : wG d 3 (39, [.ref 65, .int x1, .int x2], [.int xs2, .int xs1, .ref 66], mkH E ro) Q = wX d 58 [.ref 66, .int xs1, .int xs2] (mkH E ro) (fun v h' => wG d 3 (42, [.ref 65, .int x1, .int x2], pv v [], h') Q) := by
  exact r_inv (m := 58) (c := 4) rfl rfl rfl rfl rfl rfl rfl rfl

theorem sg_X0_askGuesses_42 {d : Nat} {E : pEv} {ro : Nat → Nat → Int32} {Q : Option Value → pH → Prop} (s_E : oE E) {x1 : Int32} {x2 : Int32} : wG d 3 (42, [.ref 65, .int x1, .int x2], [], mkH E ro) Q = wG d 3 (15, [.ref 65, .int x1, .int (x2 + 1)], [], mkH E ro) Q := by
  refine (r_iinc (y := 1) rfl rfl rfl rfl rfl rfl).trans ?_
  refine (r_goto rfl rfl).trans ?_
  exact rfl

theorem en_X0_guessAfter {d : Nat} {E : pEv} {ro : Nat → Nat → Int32} {Q : Option Value → pH → Prop} (s_E : oE E) {x1 : Int32} {x2 : Int32} : wX (d + 1) 4 [.ref 65, .int x1, .int x2] (mkH E ro) Q = wX d 20 [.ref 11, .int x2] (mkH E ro) (fun v h' => wG d 4 (16, [.ref 65, .int x1, .int x2], pv v [.int (x2 * 7), .ref 66], h') Q) := by
  refine (wX_in rfl (by decide)).trans ?_
  show wG d 4 (0, [.ref 65, .int x1, .int x2], [], mkH E ro) Q = _
  refine (r_aload_n rfl rfl rfl).trans ?_
  refine (r_getR (ci := 0) (sl := 1) s_E rfl rfl rfl rfl (by decide) rfl rfl).trans ?_
  refine (r_iload_n rfl rfl rfl).trans ?_
  refine (r_bipush (v := 7) rfl rfl rfl).trans ?_
  refine (r_imul rfl rfl).trans ?_
  refine (r_aload_n rfl rfl rfl).trans ?_
  refine (r_getR (ci := 0) (sl := 0) s_E rfl rfl rfl rfl (by decide) rfl rfl).trans ?_
  refine (r_iload_n rfl rfl rfl).trans ?_
  exact r_inv (m := 20) (c := 2) rfl rfl rfl rfl rfl rfl rfl rfl

theorem sg_X0_guessAfter_16 {d : Nat} {E : pEv} {ro : Nat → Nat → Int32} {Q : Option Value → pH → Prop} (s_E : oE E) {x1 : Int32} {x2 : Int32} {xs1 : Int32} {rs2 : Nat} (hs2 : oScene rs2) : wG d 4 (16, [.ref 65, .int x1, .int x2], [.ref rs2, .int xs1, .ref 66], mkH E ro) Q = wX d 255 [.int ((ro rs2 3) &&& (x1 ^^^ (-1)))] (mkH E ro) (fun v h' => wG d 4 (26, [.ref 65, .int x1, .int x2], pv v [.int xs1, .ref 66], h') Q) := by
  refine (r_getI (ci := 5) (sl := 3) rfl rfl rfl hs2.2.1 hs2.1).trans ?_
  refine (r_iload_n rfl rfl rfl).trans ?_
  refine (r_iconst (v := (-1)) rfl rfl rfl).trans ?_
  refine (r_ixor rfl rfl).trans ?_
  refine (r_iand rfl rfl).trans ?_
  exact r_ins (m := 255) rfl rfl rfl rfl rfl rfl

theorem sg_X0_guessAfter_26 {d : Nat} {E : pEv} {ro : Nat → Nat → Int32} {Q : Option Value → pH → Prop} (s_E : oE E) {x1 : Int32} {x2 : Int32} {xs1 : Int32} {xs2 : Int32} : wG d 4 (26, [.ref 65, .int x1, .int x2], [.int xs2, .int xs1, .ref 66], mkH E ro) Q = wX d 57 [.ref 66, .int (xs1 + xs2)] (mkH E ro) (fun v h' => wG d 4 (30, [.ref 65, .int x1, .int x2], pv v [], h') Q) := by
  refine (r_iadd rfl rfl).trans ?_
  exact r_inv (m := 57) (c := 4) rfl rfl rfl rfl rfl rfl rfl rfl

theorem sg_X0_guessAfter_30 {d : Nat} {E : pEv} {ro : Nat → Nat → Int32} {Q : Option Value → pH → Prop} (s_E : oE E) {x1 : Int32} {x2 : Int32} {xs0 : Int32} : wG d 4 (30, [.ref 65, .int x1, .int x2], [.int xs0], mkH E ro) Q = Q (some (.int xs0)) (mkH E ro) := by
  exact r_iret rfl rfl

theorem en_X0_weighGuesses {d : Nat} {E : pEv} {ro : Nat → Nat → Int32} {Q : Option Value → pH → Prop} (s_E : oE E) : wX (d + 1) 5 [.ref 65] (mkH E ro) Q = wX d 22 [.ref 11] (mkH E ro) (fun v h' => wG d 5 (7, [.ref 65, .retAddr 0, .retAddr 0, .retAddr 0, .retAddr 0, .retAddr 0, .retAddr 0, .retAddr 0], pv v [], h') Q) := by
  refine (wX_in rfl (by decide)).trans ?_
  show wG d 5 (0, [.ref 65, .retAddr 0, .retAddr 0, .retAddr 0, .retAddr 0, .retAddr 0, .retAddr 0, .retAddr 0], [], mkH E ro) Q = _
  refine (r_aload_n rfl rfl rfl).trans ?_
  refine (r_getR (ci := 0) (sl := 0) s_E rfl rfl rfl rfl (by decide) rfl rfl).trans ?_
  exact r_inv (m := 22) (c := 2) rfl rfl rfl rfl rfl rfl rfl rfl

theorem sg_X0_weighGuesses_7 {d : Nat} {E : pEv} {ro : Nat → Nat → Int32} {Q : Option Value → pH → Prop} (s_E : oE E) {v1 : Value} {v2 : Value} {v3 : Value} {v4 : Value} {v5 : Value} {v6 : Value} {v7 : Value} {xs0 : Int32} : wG d 5 (7, [.ref 65, v1, v2, v3, v4, v5, v6, v7], [.int xs0], mkH E ro) Q = wX d 58 [.ref 68, .int xs0, .int 0] (mkH E ro) (fun v h' => wG d 5 (17, [.ref 65, .int xs0, v2, v3, v4, v5, v6, v7], pv v [], h') Q) := by
  refine (r_istore_n rfl rfl rfl rfl).trans ?_
  refine (r_aload_n rfl rfl rfl).trans ?_
  refine (r_getR (ci := 0) (sl := 2) s_E rfl rfl rfl rfl (by decide) rfl rfl).trans ?_
  refine (r_iload_n rfl rfl rfl).trans ?_
  refine (r_iconst (v := 0) rfl rfl rfl).trans ?_
  exact r_inv (m := 58) (c := 4) rfl rfl rfl rfl rfl rfl rfl rfl

theorem sg_X0_weighGuesses_17 {d : Nat} {E : pEv} {ro : Nat → Nat → Int32} {Q : Option Value → pH → Prop} (s_E : oE E) {x1 : Int32} {v2 : Value} {v3 : Value} {v4 : Value} {v5 : Value} {v6 : Value} {v7 : Value} : wG d 5 (17, [.ref 65, .int x1, v2, v3, v4, v5, v6, v7], [], mkH E ro) Q = wX d 58 [.ref 70, .int x1, .int 0] (mkH E ro) (fun v h' => wG d 5 (26, [.ref 65, .int x1, v2, v3, v4, v5, v6, v7], pv v [], h') Q) := by
  refine (r_aload_n rfl rfl rfl).trans ?_
  refine (r_getR (ci := 0) (sl := 3) s_E rfl rfl rfl rfl (by decide) rfl rfl).trans ?_
  refine (r_iload_n rfl rfl rfl).trans ?_
  refine (r_iconst (v := 0) rfl rfl rfl).trans ?_
  exact r_inv (m := 58) (c := 4) rfl rfl rfl rfl rfl rfl rfl rfl

theorem sg_X0_weighGuesses_26 {d : Nat} {E : pEv} {ro : Nat → Nat → Int32} {Q : Option Value → pH → Prop} (s_E : oE E) {x1 : Int32} {v2 : Value} {v3 : Value} {v4 : Value} {v5 : Value} {v6 : Value} {v7 : Value} : wG d 5 (26, [.ref 65, .int x1, v2, v3, v4, v5, v6, v7], [], mkH E ro) Q = wG d 5 (30, [.ref 65, .int x1, .int (x1 - 1), v3, v4, v5, v6, v7], [], mkH E ro) Q := by
  refine (r_iload_n rfl rfl rfl).trans ?_
  refine (r_iconst (v := 1) rfl rfl rfl).trans ?_
  refine (r_isub rfl rfl).trans ?_
  refine (r_istore_n rfl rfl rfl rfl).trans ?_
  exact rfl

theorem sg_X0_weighGuesses_30 {d : Nat} {E : pEv} {ro : Nat → Nat → Int32} {Q : Option Value → pH → Prop} (s_E : oE E) {x1 : Int32} {x2 : Int32} {v3 : Value} {v4 : Value} {v5 : Value} {v6 : Value} {v7 : Value} : wG d 5 (30, [.ref 65, .int x1, .int x2, v3, v4, v5, v6, v7], [], mkH E ro) Q = (if x2 < 0 then Q none (mkH E ro) else wG d 5 (44, [.ref 65, .int x1, .int x2, .int 9999, .int 0, .int 0, v6, v7], [], mkH E ro) Q) := by
  refine (r_iload_n rfl rfl rfl).trans ?_
  refine (r_if_lt rfl rfl rfl).trans ?_
  refine ite_congr rfl (fun h_0 => ?_) (fun h_0 => ?_)
  · exact r_vret rfl rfl
  · refine (r_sipush (v := 9999) rfl rfl rfl).trans ?_
    refine (r_istore_n rfl rfl rfl rfl).trans ?_
    refine (r_iconst (v := 0) rfl rfl rfl).trans ?_
    refine (r_istore rfl rfl rfl rfl).trans ?_
    refine (r_iconst (v := 0) rfl rfl rfl).trans ?_
    refine (r_istore rfl rfl rfl rfl).trans ?_
    exact rfl

theorem sg_X0_weighGuesses_44 {d : Nat} {E : pEv} {ro : Nat → Nat → Int32} {Q : Option Value → pH → Prop} (s_E : oE E) {x1 : Int32} {x2 : Int32} {x3 : Int32} {x4 : Int32} {x5 : Int32} {v6 : Value} {v7 : Value} : wG d 5 (44, [.ref 65, .int x1, .int x2, .int x3, .int x4, .int x5, v6, v7], [], mkH E ro) Q = (if x5 < (ro 11 7) then wX d 1 [.int x2, .int x5] (mkH E ro) (fun v h' => wG d 5 (62, [.ref 65, .int x1, .int x2, .int x3, .int x4, .int x5, v6, v7], pv v [], h') Q) else wX d 58 [.ref 68, .int x2, .int x3] (mkH E ro) (fun v h' => wG d 5 (133, [.ref 65, .int x1, .int x2, .int x3, .int x4, .int x5, v6, v7], pv v [], h') Q)) := by
  refine (r_iload rfl rfl rfl).trans ?_
  refine (r_aload_n rfl rfl rfl).trans ?_
  refine (r_getR (ci := 0) (sl := 0) s_E rfl rfl rfl rfl (by decide) rfl rfl).trans ?_
  refine (r_getI (ci := 2) (sl := 7) rfl rfl rfl rfl (by decide)).trans ?_
  refine (r_icmp_ge rfl rfl rfl).trans ?_
  refine ite_congr rfl (fun h_0 => ?_) (fun h_0 => ?_)
  · refine (r_iload_n rfl rfl rfl).trans ?_
    refine (r_iload rfl rfl rfl).trans ?_
    exact r_ins (m := 1) rfl rfl rfl rfl rfl rfl
  · refine (r_aload_n rfl rfl rfl).trans ?_
    refine (r_getR (ci := 0) (sl := 2) s_E rfl rfl rfl rfl (by decide) rfl rfl).trans ?_
    refine (r_iload_n rfl rfl rfl).trans ?_
    refine (r_iload_n rfl rfl rfl).trans ?_
    exact r_inv (m := 58) (c := 4) rfl rfl rfl rfl rfl rfl rfl rfl

theorem sg_X0_weighGuesses_62 {d : Nat} {E : pEv} {ro : Nat → Nat → Int32} {Q : Option Value → pH → Prop} (s_E : oE E) {x1 : Int32} {x2 : Int32} {x3 : Int32} {x4 : Int32} {x5 : Int32} {v6 : Value} {v7 : Value} {xs0 : Int32} : wG d 5 (62, [.ref 65, .int x1, .int x2, .int x3, .int x4, .int x5, v6, v7], [.int xs0], mkH E ro) Q = (if xs0 = 0 then wX d 4 [.ref 65, .int x2, .int x5] (mkH E ro) (fun v h' => wG d 5 (80, [.ref 65, .int x1, .int x2, .int x3, .int x4, .int x5, .int (x2 ||| ((1 : Int32) <<< (x5 &&& 31))), v7], pv v [], h') Q) else wG d 5 (44, [.ref 65, .int x1, .int x2, .int x3, .int x4, .int (x5 + 1), v6, v7], [], mkH E ro) Q) := by
  refine (r_if_ne rfl rfl rfl).trans ?_
  refine ite_congr rfl (fun h_0 => ?_) (fun h_0 => ?_)
  · refine (r_iload_n rfl rfl rfl).trans ?_
    refine (r_iconst (v := 1) rfl rfl rfl).trans ?_
    refine (r_iload rfl rfl rfl).trans ?_
    refine (r_ishl rfl rfl).trans ?_
    refine (r_ior rfl rfl).trans ?_
    refine (r_istore rfl rfl rfl rfl).trans ?_
    refine (r_aload_n rfl rfl rfl).trans ?_
    refine (r_iload_n rfl rfl rfl).trans ?_
    refine (r_iload rfl rfl rfl).trans ?_
    exact r_inv (m := 4) (c := 0) rfl rfl rfl rfl rfl rfl rfl rfl
  · refine (r_iinc (y := 1) rfl rfl rfl rfl rfl rfl).trans ?_
    refine (r_goto rfl rfl).trans ?_
    exact rfl

theorem sg_X0_weighGuesses_80 {d : Nat} {E : pEv} {ro : Nat → Nat → Int32} {Q : Option Value → pH → Prop} (s_E : oE E) {x1 : Int32} {x2 : Int32} {x3 : Int32} {x4 : Int32} {x5 : Int32} {x6 : Int32} {v7 : Value} {xs0 : Int32} : wG d 5 (80, [.ref 65, .int x1, .int x2, .int x3, .int x4, .int x5, .int x6, v7], [.int xs0], mkH E ro) Q = wX d 57 [.ref 68, .int x6] (mkH E ro) (fun v h' => wG d 5 (94, [.ref 65, .int x1, .int x2, .int x3, .int x4, .int x5, .int x6, .int xs0], pv v [.int xs0, .int x3], h') Q) := by
  refine (r_istore rfl rfl rfl rfl).trans ?_
  refine (r_iload_n rfl rfl rfl).trans ?_
  refine (r_iload rfl rfl rfl).trans ?_
  refine (r_aload_n rfl rfl rfl).trans ?_
  refine (r_getR (ci := 0) (sl := 2) s_E rfl rfl rfl rfl (by decide) rfl rfl).trans ?_
  refine (r_iload rfl rfl rfl).trans ?_
  exact r_inv (m := 57) (c := 4) rfl rfl rfl rfl rfl rfl rfl rfl

theorem sg_X0_weighGuesses_94 {d : Nat} {E : pEv} {ro : Nat → Nat → Int32} {Q : Option Value → pH → Prop} (s_E : oE E) {x1 : Int32} {x2 : Int32} {x3 : Int32} {x4 : Int32} {x5 : Int32} {x6 : Int32} {x7 : Int32} {xs0 : Int32} {xs1 : Int32} {xs2 : Int32} : wG d 5 (94, [.ref 65, .int x1, .int x2, .int x3, .int x4, .int x5, .int x6, .int x7], [.int xs2, .int xs1, .int xs0], mkH E ro) Q = wX d 57 [.ref 70, .int x6] (mkH E ro) (fun v h' => wG d 5 (112, [.ref 65, .int x1, .int x2, .int (if (xs1 + xs2) < xs0 then (xs1 + xs2) else xs0), .int x4, .int x5, .int x6, .int x7], pv v [.int x7, .int x4], h') Q) := by
  refine (r_iadd rfl rfl).trans ?_
  refine (r_min rfl rfl rfl).trans ?_
  refine (r_istore_n rfl rfl rfl rfl).trans ?_
  refine (r_iload rfl rfl rfl).trans ?_
  refine (r_iload rfl rfl rfl).trans ?_
  refine (r_aload_n rfl rfl rfl).trans ?_
  refine (r_getR (ci := 0) (sl := 3) s_E rfl rfl rfl rfl (by decide) rfl rfl).trans ?_
  refine (r_iload rfl rfl rfl).trans ?_
  exact r_inv (m := 57) (c := 4) rfl rfl rfl rfl rfl rfl rfl rfl

theorem sg_X0_weighGuesses_112 {d : Nat} {E : pEv} {ro : Nat → Nat → Int32} {Q : Option Value → pH → Prop} (s_E : oE E) {x1 : Int32} {x2 : Int32} {x3 : Int32} {x4 : Int32} {x5 : Int32} {x6 : Int32} {x7 : Int32} {xs0 : Int32} {xs1 : Int32} {xs2 : Int32} : wG d 5 (112, [.ref 65, .int x1, .int x2, .int x3, .int x4, .int x5, .int x6, .int x7], [.int xs2, .int xs1, .int xs0], mkH E ro) Q = wG d 5 (44, [.ref 65, .int x1, .int x2, .int x3, .int (if xs0 < (xs1 + xs2) then (xs1 + xs2) else xs0), .int (x5 + 1), .int x6, .int x7], [], mkH E ro) Q := by
  refine (r_iadd rfl rfl).trans ?_
  refine (r_max rfl rfl rfl).trans ?_
  refine (r_istore rfl rfl rfl rfl).trans ?_
  refine (r_iinc (y := 1) rfl rfl rfl rfl rfl rfl).trans ?_
  refine (r_goto rfl rfl).trans ?_
  exact rfl

theorem sg_X0_weighGuesses_133 {d : Nat} {E : pEv} {ro : Nat → Nat → Int32} {Q : Option Value → pH → Prop} (s_E : oE E) {x1 : Int32} {x2 : Int32} {x3 : Int32} {x4 : Int32} {x5 : Int32} {v6 : Value} {v7 : Value} : wG d 5 (133, [.ref 65, .int x1, .int x2, .int x3, .int x4, .int x5, v6, v7], [], mkH E ro) Q = wX d 58 [.ref 70, .int x2, .int x4] (mkH E ro) (fun v h' => wG d 5 (143, [.ref 65, .int x1, .int x2, .int x3, .int x4, .int x5, v6, v7], pv v [], h') Q) := by
  refine (r_aload_n rfl rfl rfl).trans ?_
  refine (r_getR (ci := 0) (sl := 3) s_E rfl rfl rfl rfl (by decide) rfl rfl).trans ?_
  refine (r_iload_n rfl rfl rfl).trans ?_
  refine (r_iload rfl rfl rfl).trans ?_
  exact r_inv (m := 58) (c := 4) rfl rfl rfl rfl rfl rfl rfl rfl

theorem sg_X0_weighGuesses_143 {d : Nat} {E : pEv} {ro : Nat → Nat → Int32} {Q : Option Value → pH → Prop} (s_E : oE E) {x1 : Int32} {x2 : Int32} {x3 : Int32} {x4 : Int32} {x5 : Int32} {v6 : Value} {v7 : Value} : wG d 5 (143, [.ref 65, .int x1, .int x2, .int x3, .int x4, .int x5, v6, v7], [], mkH E ro) Q = wG d 5 (30, [.ref 65, .int x1, .int (x2 + (-1)), .int x3, .int x4, .int x5, v6, v7], [], mkH E ro) Q := by
  refine (r_iinc (y := (-1)) rfl rfl rfl rfl rfl rfl).trans ?_
  refine (r_goto rfl rfl).trans ?_
  exact rfl

theorem en_X0_findLeastGuessed {d : Nat} {E : pEv} {ro : Nat → Nat → Int32} {Q : Option Value → pH → Prop} (s_E : oE E) : wX (d + 1) 6 [.ref 65] (mkH E ro) Q = wX d 3 [.ref 65] (mkH E ro) (fun v h' => wG d 6 (4, [.ref 65, .retAddr 0, .retAddr 0, .retAddr 0], pv v [], h') Q) := by
  refine (wX_in rfl (by decide)).trans ?_
  show wG d 6 (0, [.ref 65, .retAddr 0, .retAddr 0, .retAddr 0], [], mkH E ro) Q = _
  refine (r_aload_n rfl rfl rfl).trans ?_
  exact r_inv (m := 3) (c := 0) rfl rfl rfl rfl rfl rfl rfl rfl

theorem sg_X0_findLeastGuessed_4 {d : Nat} {E : pEv} {ro : Nat → Nat → Int32} {Q : Option Value → pH → Prop} (s_E : oE E) {v1 : Value} {v2 : Value} {v3 : Value} : wG d 6 (4, [.ref 65, v1, v2, v3], [], mkH E ro) Q = wX d 5 [.ref 65] (mkH E ro) (fun v h' => wG d 6 (8, [.ref 65, v1, v2, v3], pv v [], h') Q) := by
  refine (r_aload_n rfl rfl rfl).trans ?_
  exact r_inv (m := 5) (c := 0) rfl rfl rfl rfl rfl rfl rfl rfl

theorem sg_X0_findLeastGuessed_8 {d : Nat} {E : pEv} {ro : Nat → Nat → Int32} {Q : Option Value → pH → Prop} (s_E : oE E) {v1 : Value} {v2 : Value} {v3 : Value} : wG d 6 (8, [.ref 65, v1, v2, v3], [], mkH E ro) Q = wX d 66 [.ref 76] (mkH E ro) (fun v h' => wG d 6 (15, [.ref 65, v1, v2, v3], pv v [], h') Q) := by
  refine (r_aload_n rfl rfl rfl).trans ?_
  refine (r_getR (ci := 0) (sl := 6) s_E rfl rfl rfl rfl (by decide) rfl rfl).trans ?_
  exact r_inv (m := 66) (c := 4) rfl rfl rfl rfl rfl rfl rfl rfl

theorem sg_X0_findLeastGuessed_15 {d : Nat} {E : pEv} {ro : Nat → Nat → Int32} {Q : Option Value → pH → Prop} (s_E : oE E) {v1 : Value} {v2 : Value} {v3 : Value} : wG d 6 (15, [.ref 65, v1, v2, v3], [], mkH E ro) Q = wG d 6 (19, [.ref 65, .int 0, .int 0, v3], [], mkH E ro) Q := by
  refine (r_iconst (v := 0) rfl rfl rfl).trans ?_
  refine (r_istore_n rfl rfl rfl rfl).trans ?_
  refine (r_iconst (v := 0) rfl rfl rfl).trans ?_
  refine (r_istore_n rfl rfl rfl rfl).trans ?_
  exact rfl

theorem sg_X0_findLeastGuessed_19 {d : Nat} {E : pEv} {ro : Nat → Nat → Int32} {Q : Option Value → pH → Prop} (s_E : oE E) {x1 : Int32} {x2 : Int32} {v3 : Value} : wG d 6 (19, [.ref 65, .int x1, .int x2, v3], [], mkH E ro) Q = (if x2 < (ro 11 7) then wX d 7 [.ref 65, .int x1] (mkH E ro) (fun v h' => wG d 6 (35, [.ref 65, .int x1, .int x2, v3], pv v [], h') Q) else wX d 57 [.ref 68, .int 0] (mkH E ro) (fun v h' => wG d 6 (64, [.ref 65, .int x1, .int x2, v3], pv v [], h') Q)) := by
  refine (r_iload_n rfl rfl rfl).trans ?_
  refine (r_aload_n rfl rfl rfl).trans ?_
  refine (r_getR (ci := 0) (sl := 0) s_E rfl rfl rfl rfl (by decide) rfl rfl).trans ?_
  refine (r_getI (ci := 2) (sl := 7) rfl rfl rfl rfl (by decide)).trans ?_
  refine (r_icmp_ge rfl rfl rfl).trans ?_
  refine ite_congr rfl (fun h_0 => ?_) (fun h_0 => ?_)
  · refine (r_aload_n rfl rfl rfl).trans ?_
    refine (r_iload_n rfl rfl rfl).trans ?_
    exact r_inv (m := 7) (c := 0) rfl rfl rfl rfl rfl rfl rfl rfl
  · refine (r_aload_n rfl rfl rfl).trans ?_
    refine (r_getR (ci := 0) (sl := 2) s_E rfl rfl rfl rfl (by decide) rfl rfl).trans ?_
    refine (r_iconst (v := 0) rfl rfl rfl).trans ?_
    exact r_inv (m := 57) (c := 4) rfl rfl rfl rfl rfl rfl rfl rfl

theorem sg_X0_findLeastGuessed_35 {d : Nat} {E : pEv} {ro : Nat → Nat → Int32} {Q : Option Value → pH → Prop} (s_E : oE E) {x1 : Int32} {x2 : Int32} {v3 : Value} {xs0 : Int32} : wG d 6 (35, [.ref 65, .int x1, .int x2, v3], [.int xs0], mkH E ro) Q = wX d 59 [.ref 76, .int xs0] (mkH E ro) (fun v h' => wG d 6 (44, [.ref 65, .int x1, .int x2, .int xs0], pv v [], h') Q) := by
  refine (r_istore_n rfl rfl rfl rfl).trans ?_
  refine (r_aload_n rfl rfl rfl).trans ?_
  refine (r_getR (ci := 0) (sl := 6) s_E rfl rfl rfl rfl (by decide) rfl rfl).trans ?_
  refine (r_iload_n rfl rfl rfl).trans ?_
  exact r_inv (m := 59) (c := 4) rfl rfl rfl rfl rfl rfl rfl rfl

theorem sg_X0_findLeastGuessed_44 {d : Nat} {E : pEv} {ro : Nat → Nat → Int32} {Q : Option Value → pH → Prop} (s_E : oE E) {x1 : Int32} {x2 : Int32} {x3 : Int32} : wG d 6 (44, [.ref 65, .int x1, .int x2, .int x3], [], mkH E ro) Q = wG d 6 (19, [.ref 65, .int (x1 ||| ((1 : Int32) <<< (x3 &&& 31))), .int (x2 + 1), .int x3], [], mkH E ro) Q := by
  refine (r_iload_n rfl rfl rfl).trans ?_
  refine (r_iconst (v := 1) rfl rfl rfl).trans ?_
  refine (r_iload_n rfl rfl rfl).trans ?_
  refine (r_ishl rfl rfl).trans ?_
  refine (r_ior rfl rfl).trans ?_
  refine (r_istore_n rfl rfl rfl rfl).trans ?_
  refine (r_iinc (y := 1) rfl rfl rfl rfl rfl rfl).trans ?_
  refine (r_goto rfl rfl).trans ?_
  exact rfl

theorem sg_X0_findLeastGuessed_64 {d : Nat} {E : pEv} {ro : Nat → Nat → Int32} {Q : Option Value → pH → Prop} (s_E : oE E) {x1 : Int32} {x2 : Int32} {v3 : Value} {xs0 : Int32} : wG d 6 (64, [.ref 65, .int x1, .int x2, v3], [.int xs0], mkH E ro) Q = Q (some (.int xs0)) (mkH E ro) := by
  exact r_iret rfl rfl

theorem en_X0_leastNext {d : Nat} {E : pEv} {ro : Nat → Nat → Int32} {Q : Option Value → pH → Prop} (s_E : oE E) {x1 : Int32} : wX (d + 1) 7 [.ref 65, .int x1] (mkH E ro) Q = wG d 7 (2, [.ref 65, .int x1, .int 0], [], mkH E ro) Q := by
  refine (wX_in rfl (by decide)).trans ?_
  show wG d 7 (0, [.ref 65, .int x1, .retAddr 0], [], mkH E ro) Q = _
  refine (r_iconst (v := 0) rfl rfl rfl).trans ?_
  refine (r_istore_n rfl rfl rfl rfl).trans ?_
  exact rfl

theorem sg_X0_leastNext_2 {d : Nat} {E : pEv} {ro : Nat → Nat → Int32} {Q : Option Value → pH → Prop} (s_E : oE E) {x1 : Int32} {x2 : Int32} : wG d 7 (2, [.ref 65, .int x1, .int x2], [], mkH E ro) Q = (if x2 < (ro 11 7) then wX d 1 [.int x1, .int x2] (mkH E ro) (fun v h' => wG d 7 (18, [.ref 65, .int x1, .int x2], pv v [], h') Q) else Q (some (.int 0)) (mkH E ro)) := by
  refine (r_iload_n rfl rfl rfl).trans ?_
  refine (r_aload_n rfl rfl rfl).trans ?_
  refine (r_getR (ci := 0) (sl := 0) s_E rfl rfl rfl rfl (by decide) rfl rfl).trans ?_
  refine (r_getI (ci := 2) (sl := 7) rfl rfl rfl rfl (by decide)).trans ?_
  refine (r_icmp_ge rfl rfl rfl).trans ?_
  refine ite_congr rfl (fun h_0 => ?_) (fun h_0 => ?_)
  · refine (r_iload_n rfl rfl rfl).trans ?_
    refine (r_iload_n rfl rfl rfl).trans ?_
    exact r_ins (m := 1) rfl rfl rfl rfl rfl rfl
  · refine (r_iconst (v := 0) rfl rfl rfl).trans ?_
    exact r_iret rfl rfl

theorem sg_X0_leastNext_18 {d : Nat} {E : pEv} {ro : Nat → Nat → Int32} {Q : Option Value → pH → Prop} (s_E : oE E) {x1 : Int32} {x2 : Int32} {xs0 : Int32} : wG d 7 (18, [.ref 65, .int x1, .int x2], [.int xs0], mkH E ro) Q = (if xs0 = 0 then wX d 4 [.ref 65, .int x1, .int x2] (mkH E ro) (fun v h' => wG d 7 (27, [.ref 65, .int x1, .int x2], pv v [], h') Q) else wG d 7 (2, [.ref 65, .int x1, .int (x2 + 1)], [], mkH E ro) Q) := by
  refine (r_if_ne rfl rfl rfl).trans ?_
  refine ite_congr rfl (fun h_0 => ?_) (fun h_0 => ?_)
  · refine (r_aload_n rfl rfl rfl).trans ?_
    refine (r_iload_n rfl rfl rfl).trans ?_
    refine (r_iload_n rfl rfl rfl).trans ?_
    exact r_inv (m := 4) (c := 0) rfl rfl rfl rfl rfl rfl rfl rfl
  · refine (r_iinc (y := 1) rfl rfl rfl rfl rfl rfl).trans ?_
    refine (r_goto rfl rfl).trans ?_
    exact rfl

theorem sg_X0_leastNext_27 {d : Nat} {E : pEv} {ro : Nat → Nat → Int32} {Q : Option Value → pH → Prop} (s_E : oE E) {x1 : Int32} {x2 : Int32} {xs0 : Int32} : wG d 7 (27, [.ref 65, .int x1, .int x2], [.int xs0], mkH E ro) Q = wX d 57 [.ref 68, .int (x1 ||| ((1 : Int32) <<< (x2 &&& 31)))] (mkH E ro) (fun v h' => wG d 7 (39, [.ref 65, .int x1, .int x2], pv v [.int xs0], h') Q) := by
  refine (r_aload_n rfl rfl rfl).trans ?_
  refine (r_getR (ci := 0) (sl := 2) s_E rfl rfl rfl rfl (by decide) rfl rfl).trans ?_
  refine (r_iload_n rfl rfl rfl).trans ?_
  refine (r_iconst (v := 1) rfl rfl rfl).trans ?_
  refine (r_iload_n rfl rfl rfl).trans ?_
  refine (r_ishl rfl rfl).trans ?_
  refine (r_ior rfl rfl).trans ?_
  exact r_inv (m := 57) (c := 4) rfl rfl rfl rfl rfl rfl rfl rfl

theorem sg_X0_leastNext_39 {d : Nat} {E : pEv} {ro : Nat → Nat → Int32} {Q : Option Value → pH → Prop} (s_E : oE E) {x1 : Int32} {x2 : Int32} {xs0 : Int32} {xs1 : Int32} : wG d 7 (39, [.ref 65, .int x1, .int x2], [.int xs1, .int xs0], mkH E ro) Q = wX d 57 [.ref 68, .int x1] (mkH E ro) (fun v h' => wG d 7 (48, [.ref 65, .int x1, .int x2], pv v [.int (xs0 + xs1)], h') Q) := by
  refine (r_iadd rfl rfl).trans ?_
  refine (r_aload_n rfl rfl rfl).trans ?_
  refine (r_getR (ci := 0) (sl := 2) s_E rfl rfl rfl rfl (by decide) rfl rfl).trans ?_
  refine (r_iload_n rfl rfl rfl).trans ?_
  exact r_inv (m := 57) (c := 4) rfl rfl rfl rfl rfl rfl rfl rfl

theorem sg_X0_leastNext_48 {d : Nat} {E : pEv} {ro : Nat → Nat → Int32} {Q : Option Value → pH → Prop} (s_E : oE E) {x1 : Int32} {x2 : Int32} {xs0 : Int32} {xs1 : Int32} : wG d 7 (48, [.ref 65, .int x1, .int x2], [.int xs1, .int xs0], mkH E ro) Q = (if xs0 = xs1 then Q (some (.int x2)) (mkH E ro) else wG d 7 (2, [.ref 65, .int x1, .int (x2 + 1)], [], mkH E ro) Q) := by
  refine (r_icmp_ne rfl rfl rfl).trans ?_
  refine ite_congr rfl (fun h_0 => ?_) (fun h_0 => ?_)
  · refine (r_iload_n rfl rfl rfl).trans ?_
    exact r_iret rfl rfl
  · refine (r_iinc (y := 1) rfl rfl rfl rfl rfl rfl).trans ?_
    refine (r_goto rfl rfl).trans ?_
    exact rfl

theorem en_X0_howManyUpTo {d : Nat} {E : pEv} {ro : Nat → Nat → Int32} {Q : Option Value → pH → Prop} (s_E : oE E) {x1 : Int32} : wX (d + 1) 8 [.ref 65, .int x1] (mkH E ro) Q = wX d 3 [.ref 65] (mkH E ro) (fun v h' => wG d 8 (4, [.ref 65, .int x1], pv v [], h') Q) := by
  refine (wX_in rfl (by decide)).trans ?_
  show wG d 8 (0, [.ref 65, .int x1], [], mkH E ro) Q = _
  refine (r_aload_n rfl rfl rfl).trans ?_
  exact r_inv (m := 3) (c := 0) rfl rfl rfl rfl rfl rfl rfl rfl

theorem sg_X0_howManyUpTo_4 {d : Nat} {E : pEv} {ro : Nat → Nat → Int32} {Q : Option Value → pH → Prop} (s_E : oE E) {x1 : Int32} : wG d 8 (4, [.ref 65, .int x1], [], mkH E ro) Q = wX d 5 [.ref 65] (mkH E ro) (fun v h' => wG d 8 (8, [.ref 65, .int x1], pv v [], h') Q) := by
  refine (r_aload_n rfl rfl rfl).trans ?_
  exact r_inv (m := 5) (c := 0) rfl rfl rfl rfl rfl rfl rfl rfl

theorem sg_X0_howManyUpTo_8 {d : Nat} {E : pEv} {ro : Nat → Nat → Int32} {Q : Option Value → pH → Prop} (s_E : oE E) {x1 : Int32} : wG d 8 (8, [.ref 65, .int x1], [], mkH E ro) Q = wX d 57 [.ref 70, .int 0] (mkH E ro) (fun v h' => wG d 8 (16, [.ref 65, .int x1], pv v [], h') Q) := by
  refine (r_aload_n rfl rfl rfl).trans ?_
  refine (r_getR (ci := 0) (sl := 3) s_E rfl rfl rfl rfl (by decide) rfl rfl).trans ?_
  refine (r_iconst (v := 0) rfl rfl rfl).trans ?_
  exact r_inv (m := 57) (c := 4) rfl rfl rfl rfl rfl rfl rfl rfl

theorem sg_X0_howManyUpTo_16 {d : Nat} {E : pEv} {ro : Nat → Nat → Int32} {Q : Option Value → pH → Prop} (s_E : oE E) {x1 : Int32} {xs0 : Int32} : wG d 8 (16, [.ref 65, .int x1], [.int xs0], mkH E ro) Q = (if x1 < xs0 then wX d 9 [.ref 65, .int x1, .int 0, .int (ro 11 7)] (mkH E ro) (fun v h' => wG d 8 (46, [.ref 65, .int x1], pv v [], h') Q) else wX d 2 [.int (ro 11 7)] (mkH E ro) (fun v h' => wG d 8 (30, [.ref 65, .int x1], pv v [], h') Q)) := by
  refine (r_iload_n rfl rfl rfl).trans ?_
  refine (r_icmp_gt rfl rfl rfl).trans ?_
  refine ite_congr rfl (fun h_0 => ?_) (fun h_0 => ?_)
  · refine (r_aload_n rfl rfl rfl).trans ?_
    refine (r_iload_n rfl rfl rfl).trans ?_
    refine (r_iconst (v := 0) rfl rfl rfl).trans ?_
    refine (r_aload_n rfl rfl rfl).trans ?_
    refine (r_getR (ci := 0) (sl := 0) s_E rfl rfl rfl rfl (by decide) rfl rfl).trans ?_
    refine (r_getI (ci := 2) (sl := 7) rfl rfl rfl rfl (by decide)).trans ?_
    exact r_inv (m := 9) (c := 0) rfl rfl rfl rfl rfl rfl rfl rfl
  · refine (r_aload_n rfl rfl rfl).trans ?_
    refine (r_getR (ci := 0) (sl := 0) s_E rfl rfl rfl rfl (by decide) rfl rfl).trans ?_
    refine (r_getI (ci := 2) (sl := 7) rfl rfl rfl rfl (by decide)).trans ?_
    exact r_ins (m := 2) rfl rfl rfl rfl rfl rfl

theorem sg_X0_howManyUpTo_30 {d : Nat} {E : pEv} {ro : Nat → Nat → Int32} {Q : Option Value → pH → Prop} (s_E : oE E) {x1 : Int32} {xs0 : Int32} : wG d 8 (30, [.ref 65, .int x1], [.int xs0], mkH E ro) Q = Q (some (.int xs0)) (mkH E ro) := by
  refine (r_goto rfl rfl).trans ?_
  exact r_iret rfl rfl

theorem sg_X0_howManyUpTo_46 {d : Nat} {E : pEv} {ro : Nat → Nat → Int32} {Q : Option Value → pH → Prop} (s_E : oE E) {x1 : Int32} {xs0 : Int32} : wG d 8 (46, [.ref 65, .int x1], [.int xs0], mkH E ro) Q = Q (some (.int xs0)) (mkH E ro) := by
  exact r_iret rfl rfl

theorem en_X0_countUpTo {d : Nat} {E : pEv} {ro : Nat → Nat → Int32} {Q : Option Value → pH → Prop} (s_E : oE E) {x1 : Int32} {x2 : Int32} {x3 : Int32} : wX (d + 1) 9 [.ref 65, .int x1, .int x2, .int x3] (mkH E ro) Q = wG d 9 (6, [.ref 65, .int x1, .int x2, .int x3, .int 0, .int 0, .retAddr 0, .retAddr 0], [], mkH E ro) Q := by
  refine (wX_in rfl (by decide)).trans ?_
  show wG d 9 (0, [.ref 65, .int x1, .int x2, .int x3, .retAddr 0, .retAddr 0, .retAddr 0, .retAddr 0], [], mkH E ro) Q = _
  refine (r_iconst (v := 0) rfl rfl rfl).trans ?_
  refine (r_istore rfl rfl rfl rfl).trans ?_
  refine (r_iconst (v := 0) rfl rfl rfl).trans ?_
  refine (r_istore rfl rfl rfl rfl).trans ?_
  exact rfl

theorem sg_X0_countUpTo_6 {d : Nat} {E : pEv} {ro : Nat → Nat → Int32} {Q : Option Value → pH → Prop} (s_E : oE E) {x1 : Int32} {x2 : Int32} {x3 : Int32} {x4 : Int32} {x5 : Int32} {v6 : Value} {v7 : Value} : wG d 9 (6, [.ref 65, .int x1, .int x2, .int x3, .int x4, .int x5, v6, v7], [], mkH E ro) Q = (if x5 < (ro 11 7) then (if 0 < x3 then wX d 1 [.int x2, .int x5] (mkH E ro) (fun v h' => wG d 9 (28, [.ref 65, .int x1, .int x2, .int x3, .int x4, .int x5, v6, v7], pv v [], h') Q) else Q (some (.int x4)) (mkH E ro)) else Q (some (.int x4)) (mkH E ro)) := by
  refine (r_iload rfl rfl rfl).trans ?_
  refine (r_aload_n rfl rfl rfl).trans ?_
  refine (r_getR (ci := 0) (sl := 0) s_E rfl rfl rfl rfl (by decide) rfl rfl).trans ?_
  refine (r_getI (ci := 2) (sl := 7) rfl rfl rfl rfl (by decide)).trans ?_
  refine (r_icmp_ge rfl rfl rfl).trans ?_
  refine ite_congr rfl (fun h_0 => ?_) (fun h_0 => ?_)
  · refine (r_iload_n rfl rfl rfl).trans ?_
    refine (r_if_le rfl rfl rfl).trans ?_
    refine ite_congr rfl (fun h_1 => ?_) (fun h_1 => ?_)
    · refine (r_iload_n rfl rfl rfl).trans ?_
      refine (r_iload rfl rfl rfl).trans ?_
      exact r_ins (m := 1) rfl rfl rfl rfl rfl rfl
    · refine (r_iload rfl rfl rfl).trans ?_
      exact r_iret rfl rfl
  · refine (r_iload rfl rfl rfl).trans ?_
    exact r_iret rfl rfl

theorem sg_X0_countUpTo_28 {d : Nat} {E : pEv} {ro : Nat → Nat → Int32} {Q : Option Value → pH → Prop} (s_E : oE E) {x1 : Int32} {x2 : Int32} {x3 : Int32} {x4 : Int32} {x5 : Int32} {v6 : Value} {v7 : Value} {xs0 : Int32} : wG d 9 (28, [.ref 65, .int x1, .int x2, .int x3, .int x4, .int x5, v6, v7], [.int xs0], mkH E ro) Q = (if xs0 = 0 then wX d 4 [.ref 65, .int x2, .int x5] (mkH E ro) (fun v h' => wG d 9 (47, [.ref 65, .int x1, .int x2, .int x3, .int x4, .int x5, .int (x2 ||| ((1 : Int32) <<< (x5 &&& 31))), v7], pv v [.int x1], h') Q) else wG d 9 (6, [.ref 65, .int x1, .int x2, .int x3, .int x4, .int (x5 + 1), v6, v7], [], mkH E ro) Q) := by
  refine (r_if_ne rfl rfl rfl).trans ?_
  refine ite_congr rfl (fun h_0 => ?_) (fun h_0 => ?_)
  · refine (r_iload_n rfl rfl rfl).trans ?_
    refine (r_iconst (v := 1) rfl rfl rfl).trans ?_
    refine (r_iload rfl rfl rfl).trans ?_
    refine (r_ishl rfl rfl).trans ?_
    refine (r_ior rfl rfl).trans ?_
    refine (r_istore rfl rfl rfl rfl).trans ?_
    refine (r_iload_n rfl rfl rfl).trans ?_
    refine (r_aload_n rfl rfl rfl).trans ?_
    refine (r_iload_n rfl rfl rfl).trans ?_
    refine (r_iload rfl rfl rfl).trans ?_
    exact r_inv (m := 4) (c := 0) rfl rfl rfl rfl rfl rfl rfl rfl
  · refine (r_iinc (y := 1) rfl rfl rfl rfl rfl rfl).trans ?_
    refine (r_goto rfl rfl).trans ?_
    exact rfl

theorem sg_X0_countUpTo_47 {d : Nat} {E : pEv} {ro : Nat → Nat → Int32} {Q : Option Value → pH → Prop} (s_E : oE E) {x1 : Int32} {x2 : Int32} {x3 : Int32} {x4 : Int32} {x5 : Int32} {x6 : Int32} {v7 : Value} {xs0 : Int32} {xs1 : Int32} : wG d 9 (47, [.ref 65, .int x1, .int x2, .int x3, .int x4, .int x5, .int x6, v7], [.int xs1, .int xs0], mkH E ro) Q = wX d 57 [.ref 70, .int x6] (mkH E ro) (fun v h' => wG d 9 (59, [.ref 65, .int x1, .int x2, .int x3, .int x4, .int x5, .int x6, .int (xs0 - xs1)], pv v [], h') Q) := by
  refine (r_isub rfl rfl).trans ?_
  refine (r_istore rfl rfl rfl rfl).trans ?_
  refine (r_aload_n rfl rfl rfl).trans ?_
  refine (r_getR (ci := 0) (sl := 3) s_E rfl rfl rfl rfl (by decide) rfl rfl).trans ?_
  refine (r_iload rfl rfl rfl).trans ?_
  exact r_inv (m := 57) (c := 4) rfl rfl rfl rfl rfl rfl rfl rfl

theorem sg_X0_countUpTo_59 {d : Nat} {E : pEv} {ro : Nat → Nat → Int32} {Q : Option Value → pH → Prop} (s_E : oE E) {x1 : Int32} {x2 : Int32} {x3 : Int32} {x4 : Int32} {x5 : Int32} {x6 : Int32} {x7 : Int32} {xs0 : Int32} : wG d 9 (59, [.ref 65, .int x1, .int x2, .int x3, .int x4, .int x5, .int x6, .int x7], [.int xs0], mkH E ro) Q = (if x7 < xs0 then wX d 57 [.ref 68, .int x6] (mkH E ro) (fun v h' => wG d 9 (87, [.ref 65, .int x1, .int x2, .int x3, .int x4, .int x5, .int x6, .int x7], pv v [], h') Q) else wX d 2 [.int (x3 - 1)] (mkH E ro) (fun v h' => wG d 9 (72, [.ref 65, .int x1, .int x2, .int x3, .int x4, .int x5, .int x6, .int x7], pv v [.int x4], h') Q)) := by
  refine (r_iload rfl rfl rfl).trans ?_
  refine (r_icmp_gt rfl rfl rfl).trans ?_
  refine ite_congr rfl (fun h_0 => ?_) (fun h_0 => ?_)
  · refine (r_aload_n rfl rfl rfl).trans ?_
    refine (r_getR (ci := 0) (sl := 2) s_E rfl rfl rfl rfl (by decide) rfl rfl).trans ?_
    refine (r_iload rfl rfl rfl).trans ?_
    exact r_inv (m := 57) (c := 4) rfl rfl rfl rfl rfl rfl rfl rfl
  · refine (r_iload rfl rfl rfl).trans ?_
    refine (r_iload_n rfl rfl rfl).trans ?_
    refine (r_iconst (v := 1) rfl rfl rfl).trans ?_
    refine (r_isub rfl rfl).trans ?_
    exact r_ins (m := 2) rfl rfl rfl rfl rfl rfl

theorem sg_X0_countUpTo_72 {d : Nat} {E : pEv} {ro : Nat → Nat → Int32} {Q : Option Value → pH → Prop} (s_E : oE E) {x1 : Int32} {x2 : Int32} {x3 : Int32} {x4 : Int32} {x5 : Int32} {x6 : Int32} {x7 : Int32} {xs0 : Int32} {xs1 : Int32} : wG d 9 (72, [.ref 65, .int x1, .int x2, .int x3, .int x4, .int x5, .int x6, .int x7], [.int xs1, .int xs0], mkH E ro) Q = wG d 9 (6, [.ref 65, .int x1, .int x2, .int x3, .int (xs0 + xs1), .int (x5 + 1), .int x6, .int x7], [], mkH E ro) Q := by
  refine (r_iadd rfl rfl).trans ?_
  refine (r_istore rfl rfl rfl rfl).trans ?_
  refine (r_goto rfl rfl).trans ?_
  refine (r_iinc (y := 1) rfl rfl rfl rfl rfl rfl).trans ?_
  refine (r_goto rfl rfl).trans ?_
  exact rfl

theorem sg_X0_countUpTo_87 {d : Nat} {E : pEv} {ro : Nat → Nat → Int32} {Q : Option Value → pH → Prop} (s_E : oE E) {x1 : Int32} {x2 : Int32} {x3 : Int32} {x4 : Int32} {x5 : Int32} {x6 : Int32} {x7 : Int32} {xs0 : Int32} : wG d 9 (87, [.ref 65, .int x1, .int x2, .int x3, .int x4, .int x5, .int x6, .int x7], [.int xs0], mkH E ro) Q = (if x7 < xs0 then wG d 9 (6, [.ref 65, .int x1, .int x2, .int x3, .int x4, .int (x5 + 1), .int x6, .int x7], [], mkH E ro) Q else wX d 9 [.ref 65, .int x7, .int x6, .int (x3 - 1)] (mkH E ro) (fun v h' => wG d 9 (105, [.ref 65, .int x1, .int x2, .int x3, .int x4, .int x5, .int x6, .int x7], pv v [.int x4], h') Q)) := by
  refine (r_iload rfl rfl rfl).trans ?_
  refine (r_icmp_gt rfl rfl rfl).trans ?_
  refine ite_congr rfl (fun h_0 => ?_) (fun h_0 => ?_)
  · refine (r_iinc (y := 1) rfl rfl rfl rfl rfl rfl).trans ?_
    refine (r_goto rfl rfl).trans ?_
    exact rfl
  · refine (r_iload rfl rfl rfl).trans ?_
    refine (r_aload_n rfl rfl rfl).trans ?_
    refine (r_iload rfl rfl rfl).trans ?_
    refine (r_iload rfl rfl rfl).trans ?_
    refine (r_iload_n rfl rfl rfl).trans ?_
    refine (r_iconst (v := 1) rfl rfl rfl).trans ?_
    refine (r_isub rfl rfl).trans ?_
    exact r_inv (m := 9) (c := 0) rfl rfl rfl rfl rfl rfl rfl rfl

theorem sg_X0_countUpTo_105 {d : Nat} {E : pEv} {ro : Nat → Nat → Int32} {Q : Option Value → pH → Prop} (s_E : oE E) {x1 : Int32} {x2 : Int32} {x3 : Int32} {x4 : Int32} {x5 : Int32} {x6 : Int32} {x7 : Int32} {xs0 : Int32} {xs1 : Int32} : wG d 9 (105, [.ref 65, .int x1, .int x2, .int x3, .int x4, .int x5, .int x6, .int x7], [.int xs1, .int xs0], mkH E ro) Q = wG d 9 (6, [.ref 65, .int x1, .int x2, .int x3, .int (xs0 + xs1), .int (x5 + 1), .int x6, .int x7], [], mkH E ro) Q := by
  refine (r_iadd rfl rfl).trans ?_
  refine (r_istore rfl rfl rfl rfl).trans ?_
  refine (r_iinc (y := 1) rfl rfl rfl rfl rfl rfl).trans ?_
  refine (r_goto rfl rfl).trans ?_
  exact rfl

theorem en_X0_findFewestHands {d : Nat} {E : pEv} {ro : Nat → Nat → Int32} {Q : Option Value → pH → Prop} (s_E : oE E) : wX (d + 1) 10 [.ref 65] (mkH E ro) Q = wX d 11 [.ref 65] (mkH E ro) (fun v h' => wG d 10 (4, [.ref 65, .retAddr 0, .retAddr 0, .retAddr 0, .retAddr 0], pv v [], h') Q) := by
  refine (wX_in rfl (by decide)).trans ?_
  show wG d 10 (0, [.ref 65, .retAddr 0, .retAddr 0, .retAddr 0, .retAddr 0], [], mkH E ro) Q = _
  refine (r_aload_n rfl rfl rfl).trans ?_
  exact r_inv (m := 11) (c := 0) rfl rfl rfl rfl rfl rfl rfl rfl

theorem sg_X0_findFewestHands_4 {d : Nat} {E : pEv} {ro : Nat → Nat → Int32} {Q : Option Value → pH → Prop} (s_E : oE E) {v1 : Value} {v2 : Value} {v3 : Value} {v4 : Value} : wG d 10 (4, [.ref 65, v1, v2, v3, v4], [], mkH E ro) Q = wX d 68 [.ref 74, .int (-1)] (mkH E ro) (fun v h' => wG d 10 (12, [.ref 65, v1, v2, v3, v4], pv v [], h') Q) := by
  refine (r_aload_n rfl rfl rfl).trans ?_
  refine (r_getR (ci := 0) (sl := 5) s_E rfl rfl rfl rfl (by decide) rfl rfl).trans ?_
  refine (r_iconst (v := (-1)) rfl rfl rfl).trans ?_
  exact r_inv (m := 68) (c := 4) rfl rfl rfl rfl rfl rfl rfl rfl

theorem sg_X0_findFewestHands_12 {d : Nat} {E : pEv} {ro : Nat → Nat → Int32} {Q : Option Value → pH → Prop} (s_E : oE E) {v1 : Value} {v2 : Value} {v3 : Value} {v4 : Value} : wG d 10 (12, [.ref 65, v1, v2, v3, v4], [], mkH E ro) Q = wG d 10 (16, [.ref 65, .int 0, .int 0, v3, v4], [], mkH E ro) Q := by
  refine (r_iconst (v := 0) rfl rfl rfl).trans ?_
  refine (r_istore_n rfl rfl rfl rfl).trans ?_
  refine (r_iconst (v := 0) rfl rfl rfl).trans ?_
  refine (r_istore_n rfl rfl rfl rfl).trans ?_
  exact rfl

theorem sg_X0_findFewestHands_16 {d : Nat} {E : pEv} {ro : Nat → Nat → Int32} {Q : Option Value → pH → Prop} (s_E : oE E) {x1 : Int32} {x2 : Int32} {v3 : Value} {v4 : Value} : wG d 10 (16, [.ref 65, .int x1, .int x2, v3, v4], [], mkH E ro) Q = (if x2 < 4 then wX d 12 [.ref 65, .int x2, .int 0, .int (-1)] (mkH E ro) (fun v h' => wG d 10 (29, [.ref 65, .int x1, .int x2, v3, v4], pv v [.int x1], h') Q) else wX d 66 [.ref 76] (mkH E ro) (fun v h' => wG d 10 (44, [.ref 65, .int x1, .int x2, v3, v4], pv v [], h') Q)) := by
  refine (r_iload_n rfl rfl rfl).trans ?_
  refine (r_iconst (v := 4) rfl rfl rfl).trans ?_
  refine (r_icmp_ge rfl rfl rfl).trans ?_
  refine ite_congr rfl (fun h_0 => ?_) (fun h_0 => ?_)
  · refine (r_iload_n rfl rfl rfl).trans ?_
    refine (r_aload_n rfl rfl rfl).trans ?_
    refine (r_iload_n rfl rfl rfl).trans ?_
    refine (r_iconst (v := 0) rfl rfl rfl).trans ?_
    refine (r_iconst (v := (-1)) rfl rfl rfl).trans ?_
    exact r_inv (m := 12) (c := 0) rfl rfl rfl rfl rfl rfl rfl rfl
  · refine (r_aload_n rfl rfl rfl).trans ?_
    refine (r_getR (ci := 0) (sl := 6) s_E rfl rfl rfl rfl (by decide) rfl rfl).trans ?_
    exact r_inv (m := 66) (c := 4) rfl rfl rfl rfl rfl rfl rfl rfl

theorem sg_X0_findFewestHands_29 {d : Nat} {E : pEv} {ro : Nat → Nat → Int32} {Q : Option Value → pH → Prop} (s_E : oE E) {x1 : Int32} {x2 : Int32} {v3 : Value} {v4 : Value} {xs0 : Int32} {xs1 : Int32} : wG d 10 (29, [.ref 65, .int x1, .int x2, v3, v4], [.int xs1, .int xs0], mkH E ro) Q = wG d 10 (16, [.ref 65, .int (xs0 + xs1), .int (x2 + 1), v3, v4], [], mkH E ro) Q := by
  refine (r_iadd rfl rfl).trans ?_
  refine (r_istore_n rfl rfl rfl rfl).trans ?_
  refine (r_iinc (y := 1) rfl rfl rfl rfl rfl rfl).trans ?_
  refine (r_goto rfl rfl).trans ?_
  exact rfl

theorem sg_X0_findFewestHands_44 {d : Nat} {E : pEv} {ro : Nat → Nat → Int32} {Q : Option Value → pH → Prop} (s_E : oE E) {x1 : Int32} {x2 : Int32} {v3 : Value} {v4 : Value} : wG d 10 (44, [.ref 65, .int x1, .int x2, v3, v4], [], mkH E ro) Q = wG d 10 (48, [.ref 65, .int x1, .int 0, .int 0, v4], [], mkH E ro) Q := by
  refine (r_iconst (v := 0) rfl rfl rfl).trans ?_
  refine (r_istore_n rfl rfl rfl rfl).trans ?_
  refine (r_iconst (v := 0) rfl rfl rfl).trans ?_
  refine (r_istore_n rfl rfl rfl rfl).trans ?_
  exact rfl

theorem sg_X0_findFewestHands_48 {d : Nat} {E : pEv} {ro : Nat → Nat → Int32} {Q : Option Value → pH → Prop} (s_E : oE E) {x1 : Int32} {x2 : Int32} {x3 : Int32} {v4 : Value} : wG d 10 (48, [.ref 65, .int x1, .int x2, .int x3, v4], [], mkH E ro) Q = (if x3 < (ro 11 7) then wX d 14 [.ref 65, .int x2] (mkH E ro) (fun v h' => wG d 10 (64, [.ref 65, .int x1, .int x2, .int x3, v4], pv v [], h') Q) else Q (some (.int x1)) (mkH E ro)) := by
  refine (r_iload_n rfl rfl rfl).trans ?_
  refine (r_aload_n rfl rfl rfl).trans ?_
  refine (r_getR (ci := 0) (sl := 0) s_E rfl rfl rfl rfl (by decide) rfl rfl).trans ?_
  refine (r_getI (ci := 2) (sl := 7) rfl rfl rfl rfl (by decide)).trans ?_
  refine (r_icmp_ge rfl rfl rfl).trans ?_
  refine ite_congr rfl (fun h_0 => ?_) (fun h_0 => ?_)
  · refine (r_aload_n rfl rfl rfl).trans ?_
    refine (r_iload_n rfl rfl rfl).trans ?_
    exact r_inv (m := 14) (c := 0) rfl rfl rfl rfl rfl rfl rfl rfl
  · refine (r_iload_n rfl rfl rfl).trans ?_
    exact r_iret rfl rfl

theorem sg_X0_findFewestHands_64 {d : Nat} {E : pEv} {ro : Nat → Nat → Int32} {Q : Option Value → pH → Prop} (s_E : oE E) {x1 : Int32} {x2 : Int32} {x3 : Int32} {v4 : Value} {xs0 : Int32} : wG d 10 (64, [.ref 65, .int x1, .int x2, .int x3, v4], [.int xs0], mkH E ro) Q = wX d 59 [.ref 76, .int xs0] (mkH E ro) (fun v h' => wG d 10 (75, [.ref 65, .int x1, .int x2, .int x3, .int xs0], pv v [], h') Q) := by
  refine (r_istore rfl rfl rfl rfl).trans ?_
  refine (r_aload_n rfl rfl rfl).trans ?_
  refine (r_getR (ci := 0) (sl := 6) s_E rfl rfl rfl rfl (by decide) rfl rfl).trans ?_
  refine (r_iload rfl rfl rfl).trans ?_
  exact r_inv (m := 59) (c := 4) rfl rfl rfl rfl rfl rfl rfl rfl

theorem sg_X0_findFewestHands_75 {d : Nat} {E : pEv} {ro : Nat → Nat → Int32} {Q : Option Value → pH → Prop} (s_E : oE E) {x1 : Int32} {x2 : Int32} {x3 : Int32} {x4 : Int32} : wG d 10 (75, [.ref 65, .int x1, .int x2, .int x3, .int x4], [], mkH E ro) Q = wX d 20 [.ref 11, .int x4] (mkH E ro) (fun v h' => wG d 10 (95, [.ref 65, .int x1, .int (x2 ||| ((1 : Int32) <<< (x4 &&& 31))), .int x3, .int x4], pv v [.ref 74], h') Q) := by
  refine (r_iload_n rfl rfl rfl).trans ?_
  refine (r_iconst (v := 1) rfl rfl rfl).trans ?_
  refine (r_iload rfl rfl rfl).trans ?_
  refine (r_ishl rfl rfl).trans ?_
  refine (r_ior rfl rfl).trans ?_
  refine (r_istore_n rfl rfl rfl rfl).trans ?_
  refine (r_aload_n rfl rfl rfl).trans ?_
  refine (r_getR (ci := 0) (sl := 5) s_E rfl rfl rfl rfl (by decide) rfl rfl).trans ?_
  refine (r_aload_n rfl rfl rfl).trans ?_
  refine (r_getR (ci := 0) (sl := 0) s_E rfl rfl rfl rfl (by decide) rfl rfl).trans ?_
  refine (r_iload rfl rfl rfl).trans ?_
  exact r_inv (m := 20) (c := 2) rfl rfl rfl rfl rfl rfl rfl rfl

theorem sg_X0_findFewestHands_95 {d : Nat} {E : pEv} {ro : Nat → Nat → Int32} {Q : Option Value → pH → Prop} (s_E : oE E) {x1 : Int32} {x2 : Int32} {x3 : Int32} {x4 : Int32} {rs1 : Nat} (hs1 : oScene rs1) : wG d 10 (95, [.ref 65, .int x1, .int x2, .int x3, .int x4], [.ref rs1, .ref 74], mkH E ro) Q = wX d 58 [.ref 74, .int (ro rs1 6), .int x4] (mkH E ro) (fun v h' => wG d 10 (103, [.ref 65, .int x1, .int x2, .int x3, .int x4], pv v [], h') Q) := by
  refine (r_getI (ci := 5) (sl := 6) rfl rfl rfl hs1.2.1 hs1.1).trans ?_
  refine (r_iload rfl rfl rfl).trans ?_
  exact r_inv (m := 58) (c := 4) rfl rfl rfl rfl rfl rfl rfl rfl

theorem sg_X0_findFewestHands_103 {d : Nat} {E : pEv} {ro : Nat → Nat → Int32} {Q : Option Value → pH → Prop} (s_E : oE E) {x1 : Int32} {x2 : Int32} {x3 : Int32} {x4 : Int32} : wG d 10 (103, [.ref 65, .int x1, .int x2, .int x3, .int x4], [], mkH E ro) Q = wG d 10 (48, [.ref 65, .int x1, .int x2, .int (x3 + 1), .int x4], [], mkH E ro) Q := by
  refine (r_iinc (y := 1) rfl rfl rfl rfl rfl rfl).trans ?_
  refine (r_goto rfl rfl).trans ?_
  exact rfl

theorem en_X0_weighHands {d : Nat} {E : pEv} {ro : Nat → Nat → Int32} {Q : Option Value → pH → Prop} (s_E : oE E) : wX (d + 1) 11 [.ref 65] (mkH E ro) Q = wX d 22 [.ref 11] (mkH E ro) (fun v h' => wG d 11 (7, [.ref 65, .retAddr 0, .retAddr 0, .retAddr 0], pv v [], h') Q) := by
  refine (wX_in rfl (by decide)).trans ?_
  show wG d 11 (0, [.ref 65, .retAddr 0, .retAddr 0, .retAddr 0], [], mkH E ro) Q = _
  refine (r_aload_n rfl rfl rfl).trans ?_
  refine (r_getR (ci := 0) (sl := 0) s_E rfl rfl rfl rfl (by decide) rfl rfl).trans ?_
  exact r_inv (m := 22) (c := 2) rfl rfl rfl rfl rfl rfl rfl rfl

theorem sg_X0_weighHands_7 {d : Nat} {E : pEv} {ro : Nat → Nat → Int32} {Q : Option Value → pH → Prop} (s_E : oE E) {v1 : Value} {v2 : Value} {v3 : Value} {xs0 : Int32} : wG d 11 (7, [.ref 65, v1, v2, v3], [.int xs0], mkH E ro) Q = wG d 11 (8, [.ref 65, .int xs0, v2, v3], [], mkH E ro) Q := by
  refine (r_istore_n rfl rfl rfl rfl).trans ?_
  exact rfl

theorem sg_X0_weighHands_8 {d : Nat} {E : pEv} {ro : Nat → Nat → Int32} {Q : Option Value → pH → Prop} (s_E : oE E) {x1 : Int32} {v2 : Value} {v3 : Value} : wG d 11 (8, [.ref 65, .int x1, v2, v3], [], mkH E ro) Q = (if x1 < 0 then Q none (mkH E ro) else wG d 11 (14, [.ref 65, .int x1, .int 0, v3], [], mkH E ro) Q) := by
  refine (r_iload_n rfl rfl rfl).trans ?_
  refine (r_if_lt rfl rfl rfl).trans ?_
  refine ite_congr rfl (fun h_0 => ?_) (fun h_0 => ?_)
  · exact r_vret rfl rfl
  · refine (r_iconst (v := 0) rfl rfl rfl).trans ?_
    refine (r_istore_n rfl rfl rfl rfl).trans ?_
    exact rfl

theorem sg_X0_weighHands_14 {d : Nat} {E : pEv} {ro : Nat → Nat → Int32} {Q : Option Value → pH → Prop} (s_E : oE E) {x1 : Int32} {x2 : Int32} {v3 : Value} : wG d 11 (14, [.ref 65, .int x1, .int x2, v3], [], mkH E ro) Q = (if x2 < (ro 11 7) then wX d 20 [.ref 11, .int x2] (mkH E ro) (fun v h' => wG d 11 (33, [.ref 65, .int x1, .int x2, v3], pv v [], h') Q) else wG d 11 (8, [.ref 65, .int (x1 + (-1)), .int x2, v3], [], mkH E ro) Q) := by
  refine (r_iload_n rfl rfl rfl).trans ?_
  refine (r_aload_n rfl rfl rfl).trans ?_
  refine (r_getR (ci := 0) (sl := 0) s_E rfl rfl rfl rfl (by decide) rfl rfl).trans ?_
  refine (r_getI (ci := 2) (sl := 7) rfl rfl rfl rfl (by decide)).trans ?_
  refine (r_icmp_ge rfl rfl rfl).trans ?_
  refine ite_congr rfl (fun h_0 => ?_) (fun h_0 => ?_)
  · refine (r_aload_n rfl rfl rfl).trans ?_
    refine (r_getR (ci := 0) (sl := 0) s_E rfl rfl rfl rfl (by decide) rfl rfl).trans ?_
    refine (r_iload_n rfl rfl rfl).trans ?_
    exact r_inv (m := 20) (c := 2) rfl rfl rfl rfl rfl rfl rfl rfl
  · refine (r_iinc (y := (-1)) rfl rfl rfl rfl rfl rfl).trans ?_
    refine (r_goto rfl rfl).trans ?_
    exact rfl

theorem sg_X0_weighHands_33 {d : Nat} {E : pEv} {ro : Nat → Nat → Int32} {Q : Option Value → pH → Prop} (s_E : oE E) {x1 : Int32} {x2 : Int32} {v3 : Value} {rs0 : Nat} (hs0 : oScene rs0) : wG d 11 (33, [.ref 65, .int x1, .int x2, v3], [.ref rs0], mkH E ro) Q = wX d 1 [.int x1, .int x2] (mkH E ro) (fun v h' => wG d 11 (42, [.ref 65, .int x1, .int x2, .int (ro rs0 6)], pv v [], h') Q) := by
  refine (r_getI (ci := 5) (sl := 6) rfl rfl rfl hs0.2.1 hs0.1).trans ?_
  refine (r_istore_n rfl rfl rfl rfl).trans ?_
  refine (r_iload_n rfl rfl rfl).trans ?_
  refine (r_iload_n rfl rfl rfl).trans ?_
  exact r_ins (m := 1) rfl rfl rfl rfl rfl rfl

theorem sg_X0_weighHands_42 {d : Nat} {E : pEv} {ro : Nat → Nat → Int32} {Q : Option Value → pH → Prop} (s_E : oE E) {x1 : Int32} {x2 : Int32} {x3 : Int32} {xs0 : Int32} : wG d 11 (42, [.ref 65, .int x1, .int x2, .int x3], [.int xs0], mkH E ro) Q = (if xs0 = 0 then wG d 11 (14, [.ref 65, .int x1, .int (x2 + 1), .int x3], [], mkH E ro) Q else (if x3 = 4 then wG d 11 (14, [.ref 65, .int x1, .int (x2 + 1), .int x3], [], mkH E ro) Q else wX d 12 [.ref 65, .int x3, .int x1, .int x2] (mkH E ro) (fun v h' => wG d 11 (67, [.ref 65, .int x1, .int x2, .int x3], pv v [.int ((x1 * 7) + x2), .ref 72], h') Q))) := by
  refine (r_if_eq rfl rfl rfl).trans ?_
  refine ite_congr rfl (fun h_0 => ?_) (fun h_0 => ?_)
  · refine (r_iinc (y := 1) rfl rfl rfl rfl rfl rfl).trans ?_
    refine (r_goto rfl rfl).trans ?_
    exact rfl
  · refine (r_iload_n rfl rfl rfl).trans ?_
    refine (r_iconst (v := 4) rfl rfl rfl).trans ?_
    refine (r_icmp_eq rfl rfl rfl).trans ?_
    refine ite_congr rfl (fun h_1 => ?_) (fun h_1 => ?_)
    · refine (r_iinc (y := 1) rfl rfl rfl rfl rfl rfl).trans ?_
      refine (r_goto rfl rfl).trans ?_
      exact rfl
    · refine (r_aload_n rfl rfl rfl).trans ?_
      refine (r_getR (ci := 0) (sl := 4) s_E rfl rfl rfl rfl (by decide) rfl rfl).trans ?_
      refine (r_iload_n rfl rfl rfl).trans ?_
      refine (r_bipush (v := 7) rfl rfl rfl).trans ?_
      refine (r_imul rfl rfl).trans ?_
      refine (r_iload_n rfl rfl rfl).trans ?_
      refine (r_iadd rfl rfl).trans ?_
      refine (r_aload_n rfl rfl rfl).trans ?_
      refine (r_iload_n rfl rfl rfl).trans ?_
      refine (r_iload_n rfl rfl rfl).trans ?_
      refine (r_iload_n rfl rfl rfl).trans ?_
      exact r_inv (m := 12) (c := 0) rfl rfl rfl rfl rfl rfl rfl rfl

theorem sg_X0_weighHands_67 {d : Nat} {E : pEv} {ro : Nat → Nat → Int32} {Q : Option Value → pH → Prop} (s_E : oE E) {x1 : Int32} {x2 : Int32} {x3 : Int32} {xs1 : Int32} {xs2 : Int32} : wG d 11 (67, [.ref 65, .int x1, .int x2, .int x3], [.int xs2, .int xs1, .ref 72], mkH E ro) Q = wX d 58 [.ref 72, .int xs1, .int xs2] (mkH E ro) (fun v h' => wG d 11 (70, [.ref 65, .int x1, .int x2, .int x3], pv v [], h') Q) := by
  exact r_inv (m := 58) (c := 4) rfl rfl rfl rfl rfl rfl rfl rfl

theorem sg_X0_weighHands_70 {d : Nat} {E : pEv} {ro : Nat → Nat → Int32} {Q : Option Value → pH → Prop} (s_E : oE E) {x1 : Int32} {x2 : Int32} {x3 : Int32} : wG d 11 (70, [.ref 65, .int x1, .int x2, .int x3], [], mkH E ro) Q = wG d 11 (14, [.ref 65, .int x1, .int (x2 + 1), .int x3], [], mkH E ro) Q := by
  refine (r_iinc (y := 1) rfl rfl rfl rfl rfl rfl).trans ?_
  refine (r_goto rfl rfl).trans ?_
  exact rfl

theorem en_X0_fewestAfter {d : Nat} {E : pEv} {ro : Nat → Nat → Int32} {Q : Option Value → pH → Prop} (s_E : oE E) {x1 : Int32} {x2 : Int32} {x3 : Int32} : wX (d + 1) 12 [.ref 65, .int x1, .int x2, .int x3] (mkH E ro) Q = wG d 12 (7, [.ref 65, .int x1, .int x2, .int x3, .int 99, .int 0], [], mkH E ro) Q := by
  refine (wX_in rfl (by decide)).trans ?_
  show wG d 12 (0, [.ref 65, .int x1, .int x2, .int x3, .retAddr 0, .retAddr 0], [], mkH E ro) Q = _
  refine (r_bipush (v := 99) rfl rfl rfl).trans ?_
  refine (r_istore rfl rfl rfl rfl).trans ?_
  refine (r_iconst (v := 0) rfl rfl rfl).trans ?_
  refine (r_istore rfl rfl rfl rfl).trans ?_
  exact rfl

theorem sg_X0_fewestAfter_7 {d : Nat} {E : pEv} {ro : Nat → Nat → Int32} {Q : Option Value → pH → Prop} (s_E : oE E) {x1 : Int32} {x2 : Int32} {x3 : Int32} {x4 : Int32} {x5 : Int32} : wG d 12 (7, [.ref 65, .int x1, .int x2, .int x3, .int x4, .int x5], [], mkH E ro) Q = (if x5 < (ro 11 7) then wX d 1 [.int x2, .int x5] (mkH E ro) (fun v h' => wG d 12 (25, [.ref 65, .int x1, .int x2, .int x3, .int x4, .int x5], pv v [], h') Q) else (if x4 = 99 then Q (some (.int 0)) (mkH E ro) else Q (some (.int x4)) (mkH E ro))) := by
  refine (r_iload rfl rfl rfl).trans ?_
  refine (r_aload_n rfl rfl rfl).trans ?_
  refine (r_getR (ci := 0) (sl := 0) s_E rfl rfl rfl rfl (by decide) rfl rfl).trans ?_
  refine (r_getI (ci := 2) (sl := 7) rfl rfl rfl rfl (by decide)).trans ?_
  refine (r_icmp_ge rfl rfl rfl).trans ?_
  refine ite_congr rfl (fun h_0 => ?_) (fun h_0 => ?_)
  · refine (r_iload_n rfl rfl rfl).trans ?_
    refine (r_iload rfl rfl rfl).trans ?_
    exact r_ins (m := 1) rfl rfl rfl rfl rfl rfl
  · refine (r_iload rfl rfl rfl).trans ?_
    refine (r_bipush (v := 99) rfl rfl rfl).trans ?_
    refine (r_icmp_ne rfl rfl rfl).trans ?_
    refine ite_congr rfl (fun h_1 => ?_) (fun h_1 => ?_)
    · refine (r_iconst (v := 0) rfl rfl rfl).trans ?_
      refine (r_goto rfl rfl).trans ?_
      exact r_iret rfl rfl
    · refine (r_iload rfl rfl rfl).trans ?_
      exact r_iret rfl rfl

theorem sg_X0_fewestAfter_25 {d : Nat} {E : pEv} {ro : Nat → Nat → Int32} {Q : Option Value → pH → Prop} (s_E : oE E) {x1 : Int32} {x2 : Int32} {x3 : Int32} {x4 : Int32} {x5 : Int32} {xs0 : Int32} : wG d 12 (25, [.ref 65, .int x1, .int x2, .int x3, .int x4, .int x5], [.int xs0], mkH E ro) Q = (if xs0 = 0 then wX d 20 [.ref 11, .int x5] (mkH E ro) (fun v h' => wG d 12 (37, [.ref 65, .int x1, .int x2, .int x3, .int x4, .int x5], pv v [], h') Q) else wG d 12 (7, [.ref 65, .int x1, .int x2, .int x3, .int x4, .int (x5 + 1)], [], mkH E ro) Q) := by
  refine (r_if_ne rfl rfl rfl).trans ?_
  refine ite_congr rfl (fun h_0 => ?_) (fun h_0 => ?_)
  · refine (r_aload_n rfl rfl rfl).trans ?_
    refine (r_getR (ci := 0) (sl := 0) s_E rfl rfl rfl rfl (by decide) rfl rfl).trans ?_
    refine (r_iload rfl rfl rfl).trans ?_
    exact r_inv (m := 20) (c := 2) rfl rfl rfl rfl rfl rfl rfl rfl
  · refine (r_iinc (y := 1) rfl rfl rfl rfl rfl rfl).trans ?_
    refine (r_goto rfl rfl).trans ?_
    exact rfl

theorem sg_X0_fewestAfter_37 {d : Nat} {E : pEv} {ro : Nat → Nat → Int32} {Q : Option Value → pH → Prop} (s_E : oE E) {x1 : Int32} {x2 : Int32} {x3 : Int32} {x4 : Int32} {x5 : Int32} {rs0 : Nat} (hs0 : oScene rs0) : wG d 12 (37, [.ref 65, .int x1, .int x2, .int x3, .int x4, .int x5], [.ref rs0], mkH E ro) Q = (if (ro rs0 6) = x1 then wX d 13 [.ref 65, .int x2, .int x3, .int x5] (mkH E ro) (fun v h' => wG d 12 (54, [.ref 65, .int x1, .int x2, .int x3, .int x4, .int x5], pv v [.int x4], h') Q) else wG d 12 (7, [.ref 65, .int x1, .int x2, .int x3, .int x4, .int (x5 + 1)], [], mkH E ro) Q) := by
  refine (r_getI (ci := 5) (sl := 6) rfl rfl rfl hs0.2.1 hs0.1).trans ?_
  refine (r_iload_n rfl rfl rfl).trans ?_
  refine (r_icmp_ne rfl rfl rfl).trans ?_
  refine ite_congr rfl (fun h_0 => ?_) (fun h_0 => ?_)
  · refine (r_iload rfl rfl rfl).trans ?_
    refine (r_aload_n rfl rfl rfl).trans ?_
    refine (r_iload_n rfl rfl rfl).trans ?_
    refine (r_iload_n rfl rfl rfl).trans ?_
    refine (r_iload rfl rfl rfl).trans ?_
    exact r_inv (m := 13) (c := 0) rfl rfl rfl rfl rfl rfl rfl rfl
  · refine (r_iinc (y := 1) rfl rfl rfl rfl rfl rfl).trans ?_
    refine (r_goto rfl rfl).trans ?_
    exact rfl

theorem sg_X0_fewestAfter_54 {d : Nat} {E : pEv} {ro : Nat → Nat → Int32} {Q : Option Value → pH → Prop} (s_E : oE E) {x1 : Int32} {x2 : Int32} {x3 : Int32} {x4 : Int32} {x5 : Int32} {xs0 : Int32} {xs1 : Int32} : wG d 12 (54, [.ref 65, .int x1, .int x2, .int x3, .int x4, .int x5], [.int xs1, .int xs0], mkH E ro) Q = wG d 12 (7, [.ref 65, .int x1, .int x2, .int x3, .int (if xs1 < xs0 then xs1 else xs0), .int (x5 + 1)], [], mkH E ro) Q := by
  refine (r_min rfl rfl rfl).trans ?_
  refine (r_istore rfl rfl rfl rfl).trans ?_
  refine (r_iinc (y := 1) rfl rfl rfl rfl rfl rfl).trans ?_
  refine (r_goto rfl rfl).trans ?_
  exact rfl

theorem en_X0_handsBy {d : Nat} {E : pEv} {ro : Nat → Nat → Int32} {Q : Option Value → pH → Prop} (s_E : oE E) {x1 : Int32} {x2 : Int32} {x3 : Int32} : wX (d + 1) 13 [.ref 65, .int x1, .int x2, .int x3] (mkH E ro) Q = (if x2 < 0 then wX d 57 [.ref 72, .int (((x1 ||| ((1 : Int32) <<< (x3 &&& 31))) * 7) + x3)] (mkH E ro) (fun v h' => wG d 13 (75, [.ref 65, .int x1, .int x2, .int x3, .int 0], pv v [.int 0], h') Q) else wX d 20 [.ref 11, .int x2] (mkH E ro) (fun v h' => wG d 13 (15, [.ref 65, .int x1, .int x2, .int x3, .int 0], pv v [], h') Q)) := by
  refine (wX_in rfl (by decide)).trans ?_
  show wG d 13 (0, [.ref 65, .int x1, .int x2, .int x3, .retAddr 0], [], mkH E ro) Q = _
  refine (r_iconst (v := 0) rfl rfl rfl).trans ?_
  refine (r_istore rfl rfl rfl rfl).trans ?_
  refine (r_iload_n rfl rfl rfl).trans ?_
  refine (r_if_lt rfl rfl rfl).trans ?_
  refine ite_congr rfl (fun h_0 => ?_) (fun h_0 => ?_)
  · refine (r_iload rfl rfl rfl).trans ?_
    refine (r_aload_n rfl rfl rfl).trans ?_
    refine (r_getR (ci := 0) (sl := 4) s_E rfl rfl rfl rfl (by decide) rfl rfl).trans ?_
    refine (r_iload_n rfl rfl rfl).trans ?_
    refine (r_iconst (v := 1) rfl rfl rfl).trans ?_
    refine (r_iload_n rfl rfl rfl).trans ?_
    refine (r_ishl rfl rfl).trans ?_
    refine (r_ior rfl rfl).trans ?_
    refine (r_bipush (v := 7) rfl rfl rfl).trans ?_
    refine (r_imul rfl rfl).trans ?_
    refine (r_iload_n rfl rfl rfl).trans ?_
    refine (r_iadd rfl rfl).trans ?_
    exact r_inv (m := 57) (c := 4) rfl rfl rfl rfl rfl rfl rfl rfl
  · refine (r_aload_n rfl rfl rfl).trans ?_
    refine (r_getR (ci := 0) (sl := 0) s_E rfl rfl rfl rfl (by decide) rfl rfl).trans ?_
    refine (r_iload_n rfl rfl rfl).trans ?_
    exact r_inv (m := 20) (c := 2) rfl rfl rfl rfl rfl rfl rfl rfl

theorem sg_X0_handsBy_15 {d : Nat} {E : pEv} {ro : Nat → Nat → Int32} {Q : Option Value → pH → Prop} (s_E : oE E) {x1 : Int32} {x2 : Int32} {x3 : Int32} {x4 : Int32} {rs0 : Nat} (hs0 : oScene rs0) : wG d 13 (15, [.ref 65, .int x1, .int x2, .int x3, .int x4], [.ref rs0], mkH E ro) Q = wX d 81 [.ref rs0, .int (ro 11 8)] (mkH E ro) (fun v h' => wG d 13 (25, [.ref 65, .int x1, .int x2, .int x3, .int x4], pv v [], h') Q) := by
  refine (r_aload_n rfl rfl rfl).trans ?_
  refine (r_getR (ci := 0) (sl := 0) s_E rfl rfl rfl rfl (by decide) rfl rfl).trans ?_
  refine (r_getI (ci := 2) (sl := 8) rfl rfl rfl rfl (by decide)).trans ?_
  exact r_inv (m := 81) (c := 5) rfl rfl rfl rfl rfl rfl hs0.2.1 rfl

theorem sg_X0_handsBy_25 {d : Nat} {E : pEv} {ro : Nat → Nat → Int32} {Q : Option Value → pH → Prop} (s_E : oE E) {x1 : Int32} {x2 : Int32} {x3 : Int32} {x4 : Int32} {xs0 : Int32} : wG d 13 (25, [.ref 65, .int x1, .int x2, .int x3, .int x4], [.int xs0], mkH E ro) Q = wX d 20 [.ref 11, .int x3] (mkH E ro) (fun v h' => wG d 13 (33, [.ref 65, .int x1, .int x2, .int x3, .int x4], pv v [.int xs0], h') Q) := by
  refine (r_aload_n rfl rfl rfl).trans ?_
  refine (r_getR (ci := 0) (sl := 0) s_E rfl rfl rfl rfl (by decide) rfl rfl).trans ?_
  refine (r_iload_n rfl rfl rfl).trans ?_
  exact r_inv (m := 20) (c := 2) rfl rfl rfl rfl rfl rfl rfl rfl

theorem sg_X0_handsBy_33 {d : Nat} {E : pEv} {ro : Nat → Nat → Int32} {Q : Option Value → pH → Prop} (s_E : oE E) {x1 : Int32} {x2 : Int32} {x3 : Int32} {x4 : Int32} {xs0 : Int32} {rs1 : Nat} (hs1 : oScene rs1) : wG d 13 (33, [.ref 65, .int x1, .int x2, .int x3, .int x4], [.ref rs1, .int xs0], mkH E ro) Q = wX d 80 [.ref rs1, .int (ro 11 8)] (mkH E ro) (fun v h' => wG d 13 (43, [.ref 65, .int x1, .int x2, .int x3, .int x4], pv v [.int xs0], h') Q) := by
  refine (r_aload_n rfl rfl rfl).trans ?_
  refine (r_getR (ci := 0) (sl := 0) s_E rfl rfl rfl rfl (by decide) rfl rfl).trans ?_
  refine (r_getI (ci := 2) (sl := 8) rfl rfl rfl rfl (by decide)).trans ?_
  exact r_inv (m := 80) (c := 5) rfl rfl rfl rfl rfl rfl hs1.2.1 rfl

theorem sg_X0_handsBy_43 {d : Nat} {E : pEv} {ro : Nat → Nat → Int32} {Q : Option Value → pH → Prop} (s_E : oE E) {x1 : Int32} {x2 : Int32} {x3 : Int32} {x4 : Int32} {xs0 : Int32} {xs1 : Int32} : wG d 13 (43, [.ref 65, .int x1, .int x2, .int x3, .int x4], [.int xs1, .int xs0], mkH E ro) Q = (if xs0 = xs1 then wX d 148 [.int 0] (mkH E ro) (fun v h' => wG d 13 (54, [.ref 65, .int x1, .int x2, .int x3, .int x4], pv v [], h') Q) else wX d 148 [.int 1] (mkH E ro) (fun v h' => wG d 13 (54, [.ref 65, .int x1, .int x2, .int x3, .int x4], pv v [], h') Q)) := by
  refine (r_icmp_eq rfl rfl rfl).trans ?_
  refine ite_congr rfl (fun h_0 => ?_) (fun h_0 => ?_)
  · refine (r_iconst (v := 0) rfl rfl rfl).trans ?_
    exact r_ins (m := 148) rfl rfl rfl rfl rfl rfl
  · refine (r_iconst (v := 1) rfl rfl rfl).trans ?_
    refine (r_goto rfl rfl).trans ?_
    exact r_ins (m := 148) rfl rfl rfl rfl rfl rfl

theorem sg_X0_handsBy_54 {d : Nat} {E : pEv} {ro : Nat → Nat → Int32} {Q : Option Value → pH → Prop} (s_E : oE E) {x1 : Int32} {x2 : Int32} {x3 : Int32} {x4 : Int32} {xs0 : Int32} : wG d 13 (54, [.ref 65, .int x1, .int x2, .int x3, .int x4], [.int xs0], mkH E ro) Q = wX d 57 [.ref 72, .int (((x1 ||| ((1 : Int32) <<< (x3 &&& 31))) * 7) + x3)] (mkH E ro) (fun v h' => wG d 13 (75, [.ref 65, .int x1, .int x2, .int x3, .int xs0], pv v [.int xs0], h') Q) := by
  refine (r_istore rfl rfl rfl rfl).trans ?_
  refine (r_iload rfl rfl rfl).trans ?_
  refine (r_aload_n rfl rfl rfl).trans ?_
  refine (r_getR (ci := 0) (sl := 4) s_E rfl rfl rfl rfl (by decide) rfl rfl).trans ?_
  refine (r_iload_n rfl rfl rfl).trans ?_
  refine (r_iconst (v := 1) rfl rfl rfl).trans ?_
  refine (r_iload_n rfl rfl rfl).trans ?_
  refine (r_ishl rfl rfl).trans ?_
  refine (r_ior rfl rfl).trans ?_
  refine (r_bipush (v := 7) rfl rfl rfl).trans ?_
  refine (r_imul rfl rfl).trans ?_
  refine (r_iload_n rfl rfl rfl).trans ?_
  refine (r_iadd rfl rfl).trans ?_
  exact r_inv (m := 57) (c := 4) rfl rfl rfl rfl rfl rfl rfl rfl

theorem sg_X0_handsBy_75 {d : Nat} {E : pEv} {ro : Nat → Nat → Int32} {Q : Option Value → pH → Prop} (s_E : oE E) {x1 : Int32} {x2 : Int32} {x3 : Int32} {x4 : Int32} {xs0 : Int32} {xs1 : Int32} : wG d 13 (75, [.ref 65, .int x1, .int x2, .int x3, .int x4], [.int xs1, .int xs0], mkH E ro) Q = Q (some (.int (xs0 + xs1))) (mkH E ro) := by
  refine (r_iadd rfl rfl).trans ?_
  exact r_iret rfl rfl

theorem en_X0_handiestNext {d : Nat} {E : pEv} {ro : Nat → Nat → Int32} {Q : Option Value → pH → Prop} (s_E : oE E) {x1 : Int32} : wX (d + 1) 14 [.ref 65, .int x1] (mkH E ro) Q = wG d 14 (2, [.ref 65, .int x1, .int 0, .retAddr 0, .retAddr 0], [], mkH E ro) Q := by
  refine (wX_in rfl (by decide)).trans ?_
  show wG d 14 (0, [.ref 65, .int x1, .retAddr 0, .retAddr 0, .retAddr 0], [], mkH E ro) Q = _
  refine (r_iconst (v := 0) rfl rfl rfl).trans ?_
  refine (r_istore_n rfl rfl rfl rfl).trans ?_
  exact rfl

theorem sg_X0_handiestNext_2 {d : Nat} {E : pEv} {ro : Nat → Nat → Int32} {Q : Option Value → pH → Prop} (s_E : oE E) {x1 : Int32} {x2 : Int32} {v3 : Value} {v4 : Value} : wG d 14 (2, [.ref 65, .int x1, .int x2, v3, v4], [], mkH E ro) Q = (if x2 < (ro 11 7) then wX d 1 [.int x1, .int x2] (mkH E ro) (fun v h' => wG d 14 (18, [.ref 65, .int x1, .int x2, v3, v4], pv v [], h') Q) else Q (some (.int 0)) (mkH E ro)) := by
  refine (r_iload_n rfl rfl rfl).trans ?_
  refine (r_aload_n rfl rfl rfl).trans ?_
  refine (r_getR (ci := 0) (sl := 0) s_E rfl rfl rfl rfl (by decide) rfl rfl).trans ?_
  refine (r_getI (ci := 2) (sl := 7) rfl rfl rfl rfl (by decide)).trans ?_
  refine (r_icmp_ge rfl rfl rfl).trans ?_
  refine ite_congr rfl (fun h_0 => ?_) (fun h_0 => ?_)
  · refine (r_iload_n rfl rfl rfl).trans ?_
    refine (r_iload_n rfl rfl rfl).trans ?_
    exact r_ins (m := 1) rfl rfl rfl rfl rfl rfl
  · refine (r_iconst (v := 0) rfl rfl rfl).trans ?_
    exact r_iret rfl rfl

theorem sg_X0_handiestNext_18 {d : Nat} {E : pEv} {ro : Nat → Nat → Int32} {Q : Option Value → pH → Prop} (s_E : oE E) {x1 : Int32} {x2 : Int32} {v3 : Value} {v4 : Value} {xs0 : Int32} : wG d 14 (18, [.ref 65, .int x1, .int x2, v3, v4], [.int xs0], mkH E ro) Q = (if xs0 = 0 then wX d 20 [.ref 11, .int x2] (mkH E ro) (fun v h' => wG d 14 (29, [.ref 65, .int x1, .int x2, v3, v4], pv v [], h') Q) else wG d 14 (2, [.ref 65, .int x1, .int (x2 + 1), v3, v4], [], mkH E ro) Q) := by
  refine (r_if_ne rfl rfl rfl).trans ?_
  refine ite_congr rfl (fun h_0 => ?_) (fun h_0 => ?_)
  · refine (r_aload_n rfl rfl rfl).trans ?_
    refine (r_getR (ci := 0) (sl := 0) s_E rfl rfl rfl rfl (by decide) rfl rfl).trans ?_
    refine (r_iload_n rfl rfl rfl).trans ?_
    exact r_inv (m := 20) (c := 2) rfl rfl rfl rfl rfl rfl rfl rfl
  · refine (r_iinc (y := 1) rfl rfl rfl rfl rfl rfl).trans ?_
    refine (r_goto rfl rfl).trans ?_
    exact rfl

theorem sg_X0_handiestNext_29 {d : Nat} {E : pEv} {ro : Nat → Nat → Int32} {Q : Option Value → pH → Prop} (s_E : oE E) {x1 : Int32} {x2 : Int32} {v3 : Value} {v4 : Value} {rs0 : Nat} (hs0 : oScene rs0) : wG d 14 (29, [.ref 65, .int x1, .int x2, v3, v4], [.ref rs0], mkH E ro) Q = wX d 57 [.ref 74, .int (ro rs0 6)] (mkH E ro) (fun v h' => wG d 14 (41, [.ref 65, .int x1, .int x2, .int (ro rs0 6), v4], pv v [], h') Q) := by
  refine (r_getI (ci := 5) (sl := 6) rfl rfl rfl hs0.2.1 hs0.1).trans ?_
  refine (r_istore_n rfl rfl rfl rfl).trans ?_
  refine (r_aload_n rfl rfl rfl).trans ?_
  refine (r_getR (ci := 0) (sl := 5) s_E rfl rfl rfl rfl (by decide) rfl rfl).trans ?_
  refine (r_iload_n rfl rfl rfl).trans ?_
  exact r_inv (m := 57) (c := 4) rfl rfl rfl rfl rfl rfl rfl rfl

theorem sg_X0_handiestNext_41 {d : Nat} {E : pEv} {ro : Nat → Nat → Int32} {Q : Option Value → pH → Prop} (s_E : oE E) {x1 : Int32} {x2 : Int32} {x3 : Int32} {v4 : Value} {xs0 : Int32} : wG d 14 (41, [.ref 65, .int x1, .int x2, .int x3, v4], [.int xs0], mkH E ro) Q = (if x3 = 4 then Q (some (.int x2)) (mkH E ro) else wX d 13 [.ref 65, .int x1, .int xs0, .int x2] (mkH E ro) (fun v h' => wG d 14 (56, [.ref 65, .int x1, .int x2, .int x3, .int xs0], pv v [], h') Q)) := by
  refine (r_istore rfl rfl rfl rfl).trans ?_
  refine (r_iload_n rfl rfl rfl).trans ?_
  refine (r_iconst (v := 4) rfl rfl rfl).trans ?_
  refine (r_icmp_eq rfl rfl rfl).trans ?_
  refine ite_congr rfl (fun h_0 => ?_) (fun h_0 => ?_)
  · refine (r_iload_n rfl rfl rfl).trans ?_
    exact r_iret rfl rfl
  · refine (r_aload_n rfl rfl rfl).trans ?_
    refine (r_iload_n rfl rfl rfl).trans ?_
    refine (r_iload rfl rfl rfl).trans ?_
    refine (r_iload_n rfl rfl rfl).trans ?_
    exact r_inv (m := 13) (c := 0) rfl rfl rfl rfl rfl rfl rfl rfl

theorem sg_X0_handiestNext_56 {d : Nat} {E : pEv} {ro : Nat → Nat → Int32} {Q : Option Value → pH → Prop} (s_E : oE E) {x1 : Int32} {x2 : Int32} {x3 : Int32} {x4 : Int32} {xs0 : Int32} : wG d 14 (56, [.ref 65, .int x1, .int x2, .int x3, .int x4], [.int xs0], mkH E ro) Q = wX d 12 [.ref 65, .int x3, .int x1, .int x4] (mkH E ro) (fun v h' => wG d 14 (64, [.ref 65, .int x1, .int x2, .int x3, .int x4], pv v [.int xs0], h') Q) := by
  refine (r_aload_n rfl rfl rfl).trans ?_
  refine (r_iload_n rfl rfl rfl).trans ?_
  refine (r_iload_n rfl rfl rfl).trans ?_
  refine (r_iload rfl rfl rfl).trans ?_
  exact r_inv (m := 12) (c := 0) rfl rfl rfl rfl rfl rfl rfl rfl

theorem sg_X0_handiestNext_64 {d : Nat} {E : pEv} {ro : Nat → Nat → Int32} {Q : Option Value → pH → Prop} (s_E : oE E) {x1 : Int32} {x2 : Int32} {x3 : Int32} {x4 : Int32} {xs0 : Int32} {xs1 : Int32} : wG d 14 (64, [.ref 65, .int x1, .int x2, .int x3, .int x4], [.int xs1, .int xs0], mkH E ro) Q = (if xs0 = xs1 then Q (some (.int x2)) (mkH E ro) else wG d 14 (2, [.ref 65, .int x1, .int (x2 + 1), .int x3, .int x4], [], mkH E ro) Q) := by
  refine (r_icmp_ne rfl rfl rfl).trans ?_
  refine ite_congr rfl (fun h_0 => ?_) (fun h_0 => ?_)
  · refine (r_iload_n rfl rfl rfl).trans ?_
    exact r_iret rfl rfl
  · refine (r_iinc (y := 1) rfl rfl rfl rfl rfl rfl).trans ?_
    refine (r_goto rfl rfl).trans ?_
    exact rfl
theorem en_X7_ownerOf {d : Nat} {E : pEv} {ro : Nat → Nat → Int32} {Q : Option Value → pH → Prop} (s_E : oE E) {x0 : Int32} {x1 : Int32} : wX (d + 1) 87 [.int x0, .int x1] (mkH E ro) Q = wG d 87 (4, [.int x0, .int x1, .int x1, .int 0], [], mkH E ro) Q := by
  refine (wX_in rfl (by decide)).trans ?_
  show wG d 87 (0, [.int x0, .int x1, .retAddr 0, .retAddr 0], [], mkH E ro) Q = _
  refine (r_iload_n rfl rfl rfl).trans ?_
  refine (r_istore_n rfl rfl rfl rfl).trans ?_
  refine (r_iconst (v := 0) rfl rfl rfl).trans ?_
  refine (r_istore_n rfl rfl rfl rfl).trans ?_
  exact rfl

theorem sg_X7_ownerOf_4 {d : Nat} {E : pEv} {ro : Nat → Nat → Int32} {Q : Option Value → pH → Prop} (s_E : oE E) {x0 : Int32} {x1 : Int32} {x2 : Int32} {x3 : Int32} : wG d 87 (4, [.int x0, .int x1, .int x2, .int x3], [], mkH E ro) Q = (if x3 < 7 then (if x2 < 0 then Q (some (.int (-1))) (mkH E ro) else wX d 88 [.int x0, .int x2] (mkH E ro) (fun v h' => wG d 87 (19, [.int x0, .int x1, .int x2, .int x3], pv v [], h') Q)) else Q (some (.int (-1))) (mkH E ro)) := by
  refine (r_iload_n rfl rfl rfl).trans ?_
  refine (r_bipush (v := 7) rfl rfl rfl).trans ?_
  refine (r_icmp_ge rfl rfl rfl).trans ?_
  refine ite_congr rfl (fun h_0 => ?_) (fun h_0 => ?_)
  · refine (r_iload_n rfl rfl rfl).trans ?_
    refine (r_if_lt rfl rfl rfl).trans ?_
    refine ite_congr rfl (fun h_1 => ?_) (fun h_1 => ?_)
    · refine (r_iconst (v := (-1)) rfl rfl rfl).trans ?_
      exact r_iret rfl rfl
    · refine (r_iload_n rfl rfl rfl).trans ?_
      refine (r_iload_n rfl rfl rfl).trans ?_
      exact r_ins (m := 88) rfl rfl rfl rfl rfl rfl
  · refine (r_iconst (v := (-1)) rfl rfl rfl).trans ?_
    exact r_iret rfl rfl

theorem sg_X7_ownerOf_19 {d : Nat} {E : pEv} {ro : Nat → Nat → Int32} {Q : Option Value → pH → Prop} (s_E : oE E) {x0 : Int32} {x1 : Int32} {x2 : Int32} {x3 : Int32} {xs0 : Int32} : wG d 87 (19, [.int x0, .int x1, .int x2, .int x3], [.int xs0], mkH E ro) Q = (if xs0 = 0 then wX d 150 [.int x2] (mkH E ro) (fun v h' => wG d 87 (28, [.int x0, .int x1, .int x2, .int x3], pv v [], h') Q) else Q (some (.int x2)) (mkH E ro)) := by
  refine (r_if_eq rfl rfl rfl).trans ?_
  refine ite_congr rfl (fun h_0 => ?_) (fun h_0 => ?_)
  · refine (r_iload_n rfl rfl rfl).trans ?_
    exact r_ins (m := 150) rfl rfl rfl rfl rfl rfl
  · refine (r_iload_n rfl rfl rfl).trans ?_
    exact r_iret rfl rfl

theorem sg_X7_ownerOf_28 {d : Nat} {E : pEv} {ro : Nat → Nat → Int32} {Q : Option Value → pH → Prop} (s_E : oE E) {x0 : Int32} {x1 : Int32} {x2 : Int32} {x3 : Int32} {xs0 : Int32} : wG d 87 (28, [.int x0, .int x1, .int x2, .int x3], [.int xs0], mkH E ro) Q = wG d 87 (4, [.int x0, .int x1, .int xs0, .int (x3 + 1)], [], mkH E ro) Q := by
  refine (r_istore_n rfl rfl rfl rfl).trans ?_
  refine (r_iinc (y := 1) rfl rfl rfl rfl rfl rfl).trans ?_
  refine (r_goto rfl rfl).trans ?_
  exact rfl

theorem en_X7_bodyOf {d : Nat} {E : pEv} {ro : Nat → Nat → Int32} {Q : Option Value → pH → Prop} (s_E : oE E) {x0 : Int32} {x1 : Int32} : wX (d + 1) 88 [.int x0, .int x1] (mkH E ro) Q = (if ((x1 * 4) + x0) < 0 then Q (some (.int 0)) (mkH E ro) else (if ((x1 * 4) + x0) < 28 then Q (some (.int (exI E.2.1 8 ((x1 * 4) + x0).toNatClampNeg))) (mkH E ro) else Q (some (.int 0)) (mkH E ro))) := by
  refine (wX_in rfl (by decide)).trans ?_
  show wG d 88 (0, [.int x0, .int x1, .retAddr 0], [], mkH E ro) Q = _
  refine (r_iload_n rfl rfl rfl).trans ?_
  refine (r_iconst (v := 4) rfl rfl rfl).trans ?_
  refine (r_imul rfl rfl).trans ?_
  refine (r_iload_n rfl rfl rfl).trans ?_
  refine (r_iadd rfl rfl).trans ?_
  refine (r_istore_n rfl rfl rfl rfl).trans ?_
  refine (r_iload_n rfl rfl rfl).trans ?_
  refine (r_if_lt rfl rfl rfl).trans ?_
  refine ite_congr rfl (fun h_0 => ?_) (fun h_0 => ?_)
  · refine (r_iconst (v := 0) rfl rfl rfl).trans ?_
    exact r_iret rfl rfl
  · refine (r_iload_n rfl rfl rfl).trans ?_
    refine (r_gets (q := 8) rfl rfl rfl).trans ?_
    refine (r_alen (v := 28) rfl rfl rfl (by decide) (by decide) rfl).trans ?_
    refine (r_icmp_ge rfl rfl rfl).trans ?_
    refine ite_congr rfl (fun h_1 => ?_) (fun h_1 => ?_)
    · refine (r_gets (q := 8) rfl rfl rfl).trans ?_
      refine (r_iload_n rfl rfl rfl).trans ?_
      refine (r_ialdT rfl rfl rfl (by decide) (ixL (n := 28) (by decide) h_0 h_1)).trans ?_
      refine (r_goto rfl rfl).trans ?_
      exact r_iret rfl rfl
    · refine (r_iconst (v := 0) rfl rfl rfl).trans ?_
      exact r_iret rfl rfl

theorem en_X7_speak {d : Nat} {E : pEv} {ro : Nat → Nat → Int32} {Q : Option Value → pH → Prop} (s_E : oE E) {r1 : Nat} (h1 : oScene r1) {x2 : Int32} {x3 : Int32} {x4 : Int32} {x5 : Int32} : wX (d + 1) 89 [.ref 84, .ref r1, .int x2, .int x3, .int x4, .int x5] (mkH E ro) Q = wX d 87 [.int x3, .int x2] (mkH E ro) (fun v h' => wG d 89 (5, [.ref 84, .ref r1, .int x2, .int x3, .int x4, .int x5, .retAddr 0, .retAddr 0], pv v [], h') Q) := by
  refine (wX_in rfl (by decide)).trans ?_
  show wG d 89 (0, [.ref 84, .ref r1, .int x2, .int x3, .int x4, .int x5, .retAddr 0, .retAddr 0], [], mkH E ro) Q = _
  refine (r_iload_n rfl rfl rfl).trans ?_
  refine (r_iload_n rfl rfl rfl).trans ?_
  exact r_ins (m := 87) rfl rfl rfl rfl rfl rfl

theorem sg_X7_speak_5 {d : Nat} {E : pEv} {ro : Nat → Nat → Int32} {Q : Option Value → pH → Prop} (s_E : oE E) {r1 : Nat} (h1 : oScene r1) {x2 : Int32} {x3 : Int32} {x4 : Int32} {x5 : Int32} {v6 : Value} {v7 : Value} {xs0 : Int32} : wG d 89 (5, [.ref 84, .ref r1, .int x2, .int x3, .int x4, .int x5, v6, v7], [.int xs0], mkH E ro) Q = (if xs0 < 0 then Q (some (.int 0)) (mkH E ro) else (if 20 < x5 then Q (some (.int 0)) (mkH E ro) else wX d 88 [.int x3, .int xs0] (mkH E ro) (fun v h' => wG d 89 (27, [.ref 84, .ref r1, .int x2, .int x3, .int x4, .int x5, .int xs0, v7], pv v [], h') Q))) := by
  refine (r_istore rfl rfl rfl rfl).trans ?_
  refine (r_iload rfl rfl rfl).trans ?_
  refine (r_if_lt rfl rfl rfl).trans ?_
  refine ite_congr rfl (fun h_0 => ?_) (fun h_0 => ?_)
  · refine (r_iconst (v := 0) rfl rfl rfl).trans ?_
    exact r_iret rfl rfl
  · refine (r_iload rfl rfl rfl).trans ?_
    refine (r_bipush (v := 20) rfl rfl rfl).trans ?_
    refine (r_icmp_le rfl rfl rfl).trans ?_
    refine ite_congr rfl (fun h_1 => ?_) (fun h_1 => ?_)
    · refine (r_iconst (v := 0) rfl rfl rfl).trans ?_
      exact r_iret rfl rfl
    · refine (r_iload_n rfl rfl rfl).trans ?_
      refine (r_iload rfl rfl rfl).trans ?_
      exact r_ins (m := 88) rfl rfl rfl rfl rfl rfl

theorem sg_X7_speak_27 {d : Nat} {E : pEv} {ro : Nat → Nat → Int32} {Q : Option Value → pH → Prop} (s_E : oE E) {r1 : Nat} (h1 : oScene r1) {x2 : Int32} {x3 : Int32} {x4 : Int32} {x5 : Int32} {x6 : Int32} {v7 : Value} {xs0 : Int32} : wG d 89 (27, [.ref 84, .ref r1, .int x2, .int x3, .int x4, .int x5, .int x6, v7], [.int xs0], mkH E ro) Q = wX d 59 [.ref 85, .int xs0] (mkH E ro) (fun v h' => wG d 89 (38, [.ref 84, .ref r1, .int x2, .int x3, .int x4, .int x5, .int x6, .int xs0], pv v [], h') Q) := by
  refine (r_istore rfl rfl rfl rfl).trans ?_
  refine (r_aload_n rfl rfl rfl).trans ?_
  refine (r_getR (ci := 7) (sl := 0) s_E rfl rfl rfl rfl (by decide) rfl rfl).trans ?_
  refine (r_iload rfl rfl rfl).trans ?_
  exact r_inv (m := 59) (c := 4) rfl rfl rfl rfl rfl rfl rfl rfl

theorem sg_X7_speak_38 {d : Nat} {E : pEv} {ro : Nat → Nat → Int32} {Q : Option Value → pH → Prop} (s_E : oE E) {r1 : Nat} (h1 : oScene r1) {x2 : Int32} {x3 : Int32} {x4 : Int32} {x5 : Int32} {x6 : Int32} {x7 : Int32} : wG d 89 (38, [.ref 84, .ref r1, .int x2, .int x3, .int x4, .int x5, .int x6, .int x7], [], mkH E ro) Q = wX d 150 [.int x6] (mkH E ro) (fun v h' => wG d 89 (47, [.ref 84, .ref r1, .int x2, .int x3, .int x4, .int x5, .int x6, .int x7], pv v [.ref r1, .int x7, .ref 84], h') Q) := by
  refine (r_aload_n rfl rfl rfl).trans ?_
  refine (r_iload rfl rfl rfl).trans ?_
  refine (r_aload_n rfl rfl rfl).trans ?_
  refine (r_iload rfl rfl rfl).trans ?_
  exact r_ins (m := 150) rfl rfl rfl rfl rfl rfl

theorem sg_X7_speak_47 {d : Nat} {E : pEv} {ro : Nat → Nat → Int32} {Q : Option Value → pH → Prop} (s_E : oE E) {r1 : Nat} (h1 : oScene r1) {x2 : Int32} {x3 : Int32} {x4 : Int32} {x5 : Int32} {x6 : Int32} {x7 : Int32} {xs1 : Int32} {rs2 : Nat} (hs2 : oScene rs2) {xs3 : Int32} : wG d 89 (47, [.ref 84, .ref r1, .int x2, .int x3, .int x4, .int x5, .int x6, .int x7], [.int xs3, .ref rs2, .int xs1, .ref 84], mkH E ro) Q = wX d 90 [.ref 84, .int xs1, .ref rs2, .int xs3, .int x4, .int (x5 + 1)] (mkH E ro) (fun v h' => wG d 89 (56, [.ref 84, .ref r1, .int x2, .int x3, .int x4, .int x5, .int x6, .int x7], pv v [], h') Q) := by
  refine (r_iload rfl rfl rfl).trans ?_
  refine (r_iload rfl rfl rfl).trans ?_
  refine (r_iconst (v := 1) rfl rfl rfl).trans ?_
  refine (r_iadd rfl rfl).trans ?_
  exact r_inv (m := 90) (c := 7) rfl rfl rfl rfl rfl rfl rfl rfl

theorem sg_X7_speak_56 {d : Nat} {E : pEv} {ro : Nat → Nat → Int32} {Q : Option Value → pH → Prop} (s_E : oE E) {r1 : Nat} (h1 : oScene r1) {x2 : Int32} {x3 : Int32} {x4 : Int32} {x5 : Int32} {x6 : Int32} {x7 : Int32} {xs0 : Int32} : wG d 89 (56, [.ref 84, .ref r1, .int x2, .int x3, .int x4, .int x5, .int x6, .int x7], [.int xs0], mkH E ro) Q = Q (some (.int xs0)) (mkH E ro) := by
  exact r_iret rfl rfl

theorem en_X7_run {d : Nat} {E : pEv} {ro : Nat → Nat → Int32} {Q : Option Value → pH → Prop} (s_E : oE E) {x1 : Int32} {r2 : Nat} (h2 : oScene r2) {x3 : Int32} {x4 : Int32} {x5 : Int32} : wX (d + 1) 90 [.ref 84, .int x1, .ref r2, .int x3, .int x4, .int x5] (mkH E ro) Q = (if x1 = 10 then Q (some (.int (x4 + (ro r2 0)))) (mkH E ro) else (if x1 = 11 then wX d 89 [.ref 84, .ref r2, .int (ro r2 1), .int 0, .int x4, .int x5] (mkH E ro) (fun v h' => wG d 90 (116, [.ref 84, .int x1, .ref r2, .int x3, .int x4, .int x5, .int (ro r2 1)], pv v [], h') Q) else (if x1 = 12 then Q (some (.int (x4 - (ro r2 2)))) (mkH E ro) else (if x1 = 13 then wX d 89 [.ref 84, .ref r2, .int (ro r2 1), .int 1, .int x4, .int x5] (mkH E ro) (fun v h' => wG d 90 (139, [.ref 84, .int x1, .ref r2, .int x3, .int x4, .int x5, .int (ro r2 1)], pv v [], h') Q) else (if x1 = 20 then wX d 89 [.ref 84, .ref r2, .int x3, .int 1, .int x4, .int x5] (mkH E ro) (fun v h' => wG d 90 (164, [.ref 84, .int x1, .ref r2, .int x3, .int x4, .int x5, .int (ro r2 1)], pv v [], h') Q) else (if x1 = 30 then wX d 89 [.ref 84, .ref r2, .int x3, .int 0, .int x4, .int x5] (mkH E ro) (fun v h' => wG d 90 (188, [.ref 84, .int x1, .ref r2, .int x3, .int x4, .int x5, .int (ro r2 1)], pv v [], h') Q) else (if x1 = 40 then wX d 89 [.ref 84, .ref r2, .int x3, .int 2, .int x4, .int x5] (mkH E ro) (fun v h' => wG d 90 (202, [.ref 84, .int x1, .ref r2, .int x3, .int x4, .int x5, .int (ro r2 1)], pv v [], h') Q) else (if x1 = 50 then wX d 89 [.ref 84, .ref r2, .int x3, .int 1, .int (x4 + 1), .int x5] (mkH E ro) (fun v h' => wG d 90 (217, [.ref 84, .int x1, .ref r2, .int x3, .int x4, .int x5, .int (ro r2 1)], pv v [], h') Q) else (if x1 = 60 then wX d 89 [.ref 84, .ref r2, .int x3, .int 3, .int x4, .int x5] (mkH E ro) (fun v h' => wG d 90 (229, [.ref 84, .int x1, .ref r2, .int x3, .int x4, .int x5, .int (ro r2 1)], pv v [], h') Q) else (if x1 = 70 then wX d 89 [.ref 84, .ref r2, .int x3, .int 2, .int x4, .int x5] (mkH E ro) (fun v h' => wG d 90 (253, [.ref 84, .int x1, .ref r2, .int x3, .int x4, .int x5, .int (ro r2 1)], pv v [], h') Q) else wX d 89 [.ref 84, .ref r2, .int (ro r2 1), .int 1, .int x4, .int x5] (mkH E ro) (fun v h' => wG d 90 (271, [.ref 84, .int x1, .ref r2, .int x3, .int x4, .int x5, .int (ro r2 1)], pv v [], h') Q))))))))))) := by
  refine (wX_in rfl (by decide)).trans ?_
  show wG d 90 (0, [.ref 84, .int x1, .ref r2, .int x3, .int x4, .int x5, .retAddr 0], [], mkH E ro) Q = _
  refine (r_aload_n rfl rfl rfl).trans ?_
  refine (r_getI (ci := 5) (sl := 1) rfl rfl rfl h2.2.1 h2.1).trans ?_
  refine (r_istore rfl rfl rfl rfl).trans ?_
  refine (r_iload_n rfl rfl rfl).trans ?_
  refine (r_lk rfl rfl).trans ?_
  refine (r_swc (y := 10) rfl).trans ?_
  refine ite_congr rfl (fun h_0 => ?_) (fun h_0 => ?_)
  · refine (r_iload rfl rfl rfl).trans ?_
    refine (r_aload_n rfl rfl rfl).trans ?_
    refine (r_getI (ci := 5) (sl := 0) rfl rfl rfl h2.2.1 h2.1).trans ?_
    refine (r_iadd rfl rfl).trans ?_
    exact r_iret rfl rfl
  · refine (r_swc (y := 11) rfl).trans ?_
    refine ite_congr rfl (fun h_1 => ?_) (fun h_1 => ?_)
    · refine (r_aload_n rfl rfl rfl).trans ?_
      refine (r_aload_n rfl rfl rfl).trans ?_
      refine (r_iload rfl rfl rfl).trans ?_
      refine (r_iconst (v := 0) rfl rfl rfl).trans ?_
      refine (r_iload rfl rfl rfl).trans ?_
      refine (r_iload rfl rfl rfl).trans ?_
      exact r_inv (m := 89) (c := 7) rfl rfl rfl rfl rfl rfl rfl rfl
    · refine (r_swc (y := 12) rfl).trans ?_
      refine ite_congr rfl (fun h_2 => ?_) (fun h_2 => ?_)
      · refine (r_iload rfl rfl rfl).trans ?_
        refine (r_aload_n rfl rfl rfl).trans ?_
        refine (r_getI (ci := 5) (sl := 2) rfl rfl rfl h2.2.1 h2.1).trans ?_
        refine (r_isub rfl rfl).trans ?_
        exact r_iret rfl rfl
      · refine (r_swc (y := 13) rfl).trans ?_
        refine ite_congr rfl (fun h_3 => ?_) (fun h_3 => ?_)
        · refine (r_aload_n rfl rfl rfl).trans ?_
          refine (r_aload_n rfl rfl rfl).trans ?_
          refine (r_iload rfl rfl rfl).trans ?_
          refine (r_iconst (v := 1) rfl rfl rfl).trans ?_
          refine (r_iload rfl rfl rfl).trans ?_
          refine (r_iload rfl rfl rfl).trans ?_
          exact r_inv (m := 89) (c := 7) rfl rfl rfl rfl rfl rfl rfl rfl
        · refine (r_swc (y := 20) rfl).trans ?_
          refine ite_congr rfl (fun h_4 => ?_) (fun h_4 => ?_)
          · refine (r_aload_n rfl rfl rfl).trans ?_
            refine (r_aload_n rfl rfl rfl).trans ?_
            refine (r_iload_n rfl rfl rfl).trans ?_
            refine (r_iconst (v := 1) rfl rfl rfl).trans ?_
            refine (r_iload rfl rfl rfl).trans ?_
            refine (r_iload rfl rfl rfl).trans ?_
            exact r_inv (m := 89) (c := 7) rfl rfl rfl rfl rfl rfl rfl rfl
          · refine (r_swc (y := 30) rfl).trans ?_
            refine ite_congr rfl (fun h_5 => ?_) (fun h_5 => ?_)
            · refine (r_aload_n rfl rfl rfl).trans ?_
              refine (r_aload_n rfl rfl rfl).trans ?_
              refine (r_iload_n rfl rfl rfl).trans ?_
              refine (r_iconst (v := 0) rfl rfl rfl).trans ?_
              refine (r_iload rfl rfl rfl).trans ?_
              refine (r_iload rfl rfl rfl).trans ?_
              exact r_inv (m := 89) (c := 7) rfl rfl rfl rfl rfl rfl rfl rfl
            · refine (r_swc (y := 40) rfl).trans ?_
              refine ite_congr rfl (fun h_6 => ?_) (fun h_6 => ?_)
              · refine (r_aload_n rfl rfl rfl).trans ?_
                refine (r_aload_n rfl rfl rfl).trans ?_
                refine (r_iload_n rfl rfl rfl).trans ?_
                refine (r_iconst (v := 2) rfl rfl rfl).trans ?_
                refine (r_iload rfl rfl rfl).trans ?_
                refine (r_iload rfl rfl rfl).trans ?_
                exact r_inv (m := 89) (c := 7) rfl rfl rfl rfl rfl rfl rfl rfl
              · refine (r_swc (y := 50) rfl).trans ?_
                refine ite_congr rfl (fun h_7 => ?_) (fun h_7 => ?_)
                · refine (r_aload_n rfl rfl rfl).trans ?_
                  refine (r_aload_n rfl rfl rfl).trans ?_
                  refine (r_iload_n rfl rfl rfl).trans ?_
                  refine (r_iconst (v := 1) rfl rfl rfl).trans ?_
                  refine (r_iload rfl rfl rfl).trans ?_
                  refine (r_iconst (v := 1) rfl rfl rfl).trans ?_
                  refine (r_iadd rfl rfl).trans ?_
                  refine (r_iload rfl rfl rfl).trans ?_
                  exact r_inv (m := 89) (c := 7) rfl rfl rfl rfl rfl rfl rfl rfl
                · refine (r_swc (y := 60) rfl).trans ?_
                  refine ite_congr rfl (fun h_8 => ?_) (fun h_8 => ?_)
                  · refine (r_aload_n rfl rfl rfl).trans ?_
                    refine (r_aload_n rfl rfl rfl).trans ?_
                    refine (r_iload_n rfl rfl rfl).trans ?_
                    refine (r_iconst (v := 3) rfl rfl rfl).trans ?_
                    refine (r_iload rfl rfl rfl).trans ?_
                    refine (r_iload rfl rfl rfl).trans ?_
                    exact r_inv (m := 89) (c := 7) rfl rfl rfl rfl rfl rfl rfl rfl
                  · refine (r_swc (y := 70) rfl).trans ?_
                    refine ite_congr rfl (fun h_9 => ?_) (fun h_9 => ?_)
                    · refine (r_aload_n rfl rfl rfl).trans ?_
                      refine (r_aload_n rfl rfl rfl).trans ?_
                      refine (r_iload_n rfl rfl rfl).trans ?_
                      refine (r_iconst (v := 2) rfl rfl rfl).trans ?_
                      refine (r_iload rfl rfl rfl).trans ?_
                      refine (r_iload rfl rfl rfl).trans ?_
                      exact r_inv (m := 89) (c := 7) rfl rfl rfl rfl rfl rfl rfl rfl
                    · refine r_swn.trans ?_
                      refine (r_aload_n rfl rfl rfl).trans ?_
                      refine (r_aload_n rfl rfl rfl).trans ?_
                      refine (r_iload rfl rfl rfl).trans ?_
                      refine (r_iconst (v := 1) rfl rfl rfl).trans ?_
                      refine (r_iload rfl rfl rfl).trans ?_
                      refine (r_iload rfl rfl rfl).trans ?_
                      exact r_inv (m := 89) (c := 7) rfl rfl rfl rfl rfl rfl rfl rfl

theorem sg_X7_run_116 {d : Nat} {E : pEv} {ro : Nat → Nat → Int32} {Q : Option Value → pH → Prop} (s_E : oE E) {x1 : Int32} {r2 : Nat} (h2 : oScene r2) {x3 : Int32} {x4 : Int32} {x5 : Int32} {x6 : Int32} {xs0 : Int32} : wG d 90 (116, [.ref 84, .int x1, .ref r2, .int x3, .int x4, .int x5, .int x6], [.int xs0], mkH E ro) Q = Q (some (.int (xs0 * 2))) (mkH E ro) := by
  refine (r_iconst (v := 2) rfl rfl rfl).trans ?_
  refine (r_imul rfl rfl).trans ?_
  exact r_iret rfl rfl

theorem sg_X7_run_139 {d : Nat} {E : pEv} {ro : Nat → Nat → Int32} {Q : Option Value → pH → Prop} (s_E : oE E) {x1 : Int32} {r2 : Nat} (h2 : oScene r2) {x3 : Int32} {x4 : Int32} {x5 : Int32} {x6 : Int32} {xs0 : Int32} : wG d 90 (139, [.ref 84, .int x1, .ref r2, .int x3, .int x4, .int x5, .int x6], [.int xs0], mkH E ro) Q = wX d 89 [.ref 84, .ref r2, .int x6, .int 2, .int x4, .int x5] (mkH E ro) (fun v h' => wG d 90 (151, [.ref 84, .int x1, .ref r2, .int x3, .int x4, .int x5, .int x6], pv v [.int xs0], h') Q) := by
  refine (r_aload_n rfl rfl rfl).trans ?_
  refine (r_aload_n rfl rfl rfl).trans ?_
  refine (r_iload rfl rfl rfl).trans ?_
  refine (r_iconst (v := 2) rfl rfl rfl).trans ?_
  refine (r_iload rfl rfl rfl).trans ?_
  refine (r_iload rfl rfl rfl).trans ?_
  exact r_inv (m := 89) (c := 7) rfl rfl rfl rfl rfl rfl rfl rfl

theorem sg_X7_run_151 {d : Nat} {E : pEv} {ro : Nat → Nat → Int32} {Q : Option Value → pH → Prop} (s_E : oE E) {x1 : Int32} {r2 : Nat} (h2 : oScene r2) {x3 : Int32} {x4 : Int32} {x5 : Int32} {x6 : Int32} {xs0 : Int32} {xs1 : Int32} : wG d 90 (151, [.ref 84, .int x1, .ref r2, .int x3, .int x4, .int x5, .int x6], [.int xs1, .int xs0], mkH E ro) Q = Q (some (.int (xs0 ^^^ xs1))) (mkH E ro) := by
  refine (r_ixor rfl rfl).trans ?_
  exact r_iret rfl rfl

theorem sg_X7_run_164 {d : Nat} {E : pEv} {ro : Nat → Nat → Int32} {Q : Option Value → pH → Prop} (s_E : oE E) {x1 : Int32} {r2 : Nat} (h2 : oScene r2) {x3 : Int32} {x4 : Int32} {x5 : Int32} {x6 : Int32} {xs0 : Int32} : wG d 90 (164, [.ref 84, .int x1, .ref r2, .int x3, .int x4, .int x5, .int x6], [.int xs0], mkH E ro) Q = wX d 89 [.ref 84, .ref r2, .int x6, .int 2, .int 1, .int x5] (mkH E ro) (fun v h' => wG d 90 (175, [.ref 84, .int x1, .ref r2, .int x3, .int x4, .int x5, .int x6], pv v [.int xs0], h') Q) := by
  refine (r_aload_n rfl rfl rfl).trans ?_
  refine (r_aload_n rfl rfl rfl).trans ?_
  refine (r_iload rfl rfl rfl).trans ?_
  refine (r_iconst (v := 2) rfl rfl rfl).trans ?_
  refine (r_iconst (v := 1) rfl rfl rfl).trans ?_
  refine (r_iload rfl rfl rfl).trans ?_
  exact r_inv (m := 89) (c := 7) rfl rfl rfl rfl rfl rfl rfl rfl

theorem sg_X7_run_175 {d : Nat} {E : pEv} {ro : Nat → Nat → Int32} {Q : Option Value → pH → Prop} (s_E : oE E) {x1 : Int32} {r2 : Nat} (h2 : oScene r2) {x3 : Int32} {x4 : Int32} {x5 : Int32} {x6 : Int32} {xs0 : Int32} {xs1 : Int32} : wG d 90 (175, [.ref 84, .int x1, .ref r2, .int x3, .int x4, .int x5, .int x6], [.int xs1, .int xs0], mkH E ro) Q = Q (some (.int (xs0 - xs1))) (mkH E ro) := by
  refine (r_isub rfl rfl).trans ?_
  exact r_iret rfl rfl

theorem sg_X7_run_188 {d : Nat} {E : pEv} {ro : Nat → Nat → Int32} {Q : Option Value → pH → Prop} (s_E : oE E) {x1 : Int32} {r2 : Nat} (h2 : oScene r2) {x3 : Int32} {x4 : Int32} {x5 : Int32} {x6 : Int32} {xs0 : Int32} : wG d 90 (188, [.ref 84, .int x1, .ref r2, .int x3, .int x4, .int x5, .int x6], [.int xs0], mkH E ro) Q = Q (some (.int (xs0 * 3))) (mkH E ro) := by
  refine (r_iconst (v := 3) rfl rfl rfl).trans ?_
  refine (r_imul rfl rfl).trans ?_
  exact r_iret rfl rfl

theorem sg_X7_run_202 {d : Nat} {E : pEv} {ro : Nat → Nat → Int32} {Q : Option Value → pH → Prop} (s_E : oE E) {x1 : Int32} {r2 : Nat} (h2 : oScene r2) {x3 : Int32} {x4 : Int32} {x5 : Int32} {x6 : Int32} {xs0 : Int32} : wG d 90 (202, [.ref 84, .int x1, .ref r2, .int x3, .int x4, .int x5, .int x6], [.int xs0], mkH E ro) Q = Q (some (.int (-xs0))) (mkH E ro) := by
  refine (r_ineg rfl rfl).trans ?_
  exact r_iret rfl rfl

theorem sg_X7_run_217 {d : Nat} {E : pEv} {ro : Nat → Nat → Int32} {Q : Option Value → pH → Prop} (s_E : oE E) {x1 : Int32} {r2 : Nat} (h2 : oScene r2) {x3 : Int32} {x4 : Int32} {x5 : Int32} {x6 : Int32} {xs0 : Int32} : wG d 90 (217, [.ref 84, .int x1, .ref r2, .int x3, .int x4, .int x5, .int x6], [.int xs0], mkH E ro) Q = Q (some (.int xs0)) (mkH E ro) := by
  exact r_iret rfl rfl

theorem sg_X7_run_229 {d : Nat} {E : pEv} {ro : Nat → Nat → Int32} {Q : Option Value → pH → Prop} (s_E : oE E) {x1 : Int32} {r2 : Nat} (h2 : oScene r2) {x3 : Int32} {x4 : Int32} {x5 : Int32} {x6 : Int32} {xs0 : Int32} : wG d 90 (229, [.ref 84, .int x1, .ref r2, .int x3, .int x4, .int x5, .int x6], [.int xs0], mkH E ro) Q = wX d 89 [.ref 84, .ref r2, .int x6, .int 0, .int 2, .int x5] (mkH E ro) (fun v h' => wG d 90 (240, [.ref 84, .int x1, .ref r2, .int x3, .int x4, .int x5, .int x6], pv v [.int xs0], h') Q) := by
  refine (r_aload_n rfl rfl rfl).trans ?_
  refine (r_aload_n rfl rfl rfl).trans ?_
  refine (r_iload rfl rfl rfl).trans ?_
  refine (r_iconst (v := 0) rfl rfl rfl).trans ?_
  refine (r_iconst (v := 2) rfl rfl rfl).trans ?_
  refine (r_iload rfl rfl rfl).trans ?_
  exact r_inv (m := 89) (c := 7) rfl rfl rfl rfl rfl rfl rfl rfl

theorem sg_X7_run_240 {d : Nat} {E : pEv} {ro : Nat → Nat → Int32} {Q : Option Value → pH → Prop} (s_E : oE E) {x1 : Int32} {r2 : Nat} (h2 : oScene r2) {x3 : Int32} {x4 : Int32} {x5 : Int32} {x6 : Int32} {xs0 : Int32} {xs1 : Int32} : wG d 90 (240, [.ref 84, .int x1, .ref r2, .int x3, .int x4, .int x5, .int x6], [.int xs1, .int xs0], mkH E ro) Q = Q (some (.int (xs0 - xs1))) (mkH E ro) := by
  refine (r_isub rfl rfl).trans ?_
  exact r_iret rfl rfl

theorem sg_X7_run_253 {d : Nat} {E : pEv} {ro : Nat → Nat → Int32} {Q : Option Value → pH → Prop} (s_E : oE E) {x1 : Int32} {r2 : Nat} (h2 : oScene r2) {x3 : Int32} {x4 : Int32} {x5 : Int32} {x6 : Int32} {xs0 : Int32} : wG d 90 (253, [.ref 84, .int x1, .ref r2, .int x3, .int x4, .int x5, .int x6], [.int xs0], mkH E ro) Q = Q (some (.int (xs0 ^^^ (ro r2 0)))) (mkH E ro) := by
  refine (r_aload_n rfl rfl rfl).trans ?_
  refine (r_getI (ci := 5) (sl := 0) rfl rfl rfl h2.2.1 h2.1).trans ?_
  refine (r_ixor rfl rfl).trans ?_
  exact r_iret rfl rfl

theorem sg_X7_run_271 {d : Nat} {E : pEv} {ro : Nat → Nat → Int32} {Q : Option Value → pH → Prop} (s_E : oE E) {x1 : Int32} {r2 : Nat} (h2 : oScene r2) {x3 : Int32} {x4 : Int32} {x5 : Int32} {x6 : Int32} {xs0 : Int32} : wG d 90 (271, [.ref 84, .int x1, .ref r2, .int x3, .int x4, .int x5, .int x6], [.int xs0], mkH E ro) Q = wX d 89 [.ref 84, .ref r2, .int x3, .int 3, .int x4, .int x5] (mkH E ro) (fun v h' => wG d 90 (282, [.ref 84, .int x1, .ref r2, .int x3, .int x4, .int x5, .int x6], pv v [.int xs0], h') Q) := by
  refine (r_aload_n rfl rfl rfl).trans ?_
  refine (r_aload_n rfl rfl rfl).trans ?_
  refine (r_iload_n rfl rfl rfl).trans ?_
  refine (r_iconst (v := 3) rfl rfl rfl).trans ?_
  refine (r_iload rfl rfl rfl).trans ?_
  refine (r_iload rfl rfl rfl).trans ?_
  exact r_inv (m := 89) (c := 7) rfl rfl rfl rfl rfl rfl rfl rfl

theorem sg_X7_run_282 {d : Nat} {E : pEv} {ro : Nat → Nat → Int32} {Q : Option Value → pH → Prop} (s_E : oE E) {x1 : Int32} {r2 : Nat} (h2 : oScene r2) {x3 : Int32} {x4 : Int32} {x5 : Int32} {x6 : Int32} {xs0 : Int32} {xs1 : Int32} : wG d 90 (282, [.ref 84, .int x1, .ref r2, .int x3, .int x4, .int x5, .int x6], [.int xs1, .int xs0], mkH E ro) Q = Q (some (.int (xs0 - xs1))) (mkH E ro) := by
  refine (r_isub rfl rfl).trans ?_
  exact r_iret rfl rfl

theorem en_X7_begin {d : Nat} {E : pEv} {ro : Nat → Nat → Int32} {Q : Option Value → pH → Prop} (s_E : oE E) {r1 : Nat} (h1 : oScene r1) {x2 : Int32} {x3 : Int32} : wX (d + 1) 256 [.ref 84, .ref r1, .int x2, .int x3] (mkH E ro) Q = wX d 66 [.ref 85] (mkH E ro) (fun v h' => wG d 256 (7, [.ref 84, .ref r1, .int x2, .int x3], pv v [], h') Q) := by
  refine (wX_in rfl (by decide)).trans ?_
  show wG d 256 (0, [.ref 84, .ref r1, .int x2, .int x3], [], mkH E ro) Q = _
  refine (r_aload_n rfl rfl rfl).trans ?_
  refine (r_getR (ci := 7) (sl := 0) s_E rfl rfl rfl rfl (by decide) rfl rfl).trans ?_
  exact r_inv (m := 66) (c := 4) rfl rfl rfl rfl rfl rfl rfl rfl

theorem sg_X7_begin_7 {d : Nat} {E : pEv} {ro : Nat → Nat → Int32} {Q : Option Value → pH → Prop} (s_E : oE E) {r1 : Nat} (h1 : oScene r1) {x2 : Int32} {x3 : Int32} : wG d 256 (7, [.ref 84, .ref r1, .int x2, .int x3], [], mkH E ro) Q = wX d 89 [.ref 84, .ref r1, .int (ro r1 1), .int x2, .int x3, .int 0] (mkH E ro) (fun v h' => wG d 256 (19, [.ref 84, .ref r1, .int x2, .int x3], pv v [], h') Q) := by
  refine (r_aload_n rfl rfl rfl).trans ?_
  refine (r_aload_n rfl rfl rfl).trans ?_
  refine (r_aload_n rfl rfl rfl).trans ?_
  refine (r_getI (ci := 5) (sl := 1) rfl rfl rfl h1.2.1 h1.1).trans ?_
  refine (r_iload_n rfl rfl rfl).trans ?_
  refine (r_iload_n rfl rfl rfl).trans ?_
  refine (r_iconst (v := 0) rfl rfl rfl).trans ?_
  exact r_inv (m := 89) (c := 7) rfl rfl rfl rfl rfl rfl rfl rfl

theorem sg_X7_begin_19 {d : Nat} {E : pEv} {ro : Nat → Nat → Int32} {Q : Option Value → pH → Prop} (s_E : oE E) {r1 : Nat} (h1 : oScene r1) {x2 : Int32} {x3 : Int32} {xs0 : Int32} : wG d 256 (19, [.ref 84, .ref r1, .int x2, .int x3], [.int xs0], mkH E ro) Q = Q (some (.int xs0)) (mkH E ro) := by
  exact r_iret rfl rfl
