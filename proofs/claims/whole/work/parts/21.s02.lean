theorem en_X2_at {d : Nat} {E : pEv} {ro : Nat → Nat → Int32} {Q : Option Value → pH → Prop} (s_E : oE E) {r0 : Nat} (h0 : oPlay r0) {x1 : Int32} : wX (d + 1) 20 [.ref r0, .int x1] (mkH E ro) Q = (if x1 < 0 then Q (some (.ref (r0 + 2 + 0))) (mkH E ro) else (if x1 < 7 then Q (some (.ref (r0 + 2 + x1.toNatClampNeg))) (mkH E ro) else Q (some (.ref (r0 + 2 + 0))) (mkH E ro))) := by
  refine (wX_in rfl (by decide)).trans ?_
  show wG d 20 (0, [.ref r0, .int x1], [], mkH E ro) Q = _
  refine (r_aload_n rfl rfl rfl).trans ?_
  refine (r_getR (ci := 2) (sl := 0) s_E rfl rfl rfl h0.2.1 h0.1 h0.2.2.1 (n81 h0.2.1 (by decide))).trans ?_
  refine (r_iload_n rfl rfl rfl).trans ?_
  refine (r_if_lt rfl rfl rfl).trans ?_
  refine ite_congr rfl (fun h_0 => ?_) (fun h_0 => ?_)
  · refine (r_iconst (v := 0) rfl rfl rfl).trans ?_
    refine (r_aald s_E rfl rfl h0.2.2.2.2.2.2.2.2.2.1 (Or.inl rfl) (Nat.le_succ_of_le h0.1) (show ¬ (0 : Int32) < 0 ∧ (0 : Int32).toNatClampNeg < 7 by decide) (by decide) (ne81 h0.2.2.2.2.2.2.2.2.2.1 (by decide)) ((h0.2.2.2.2.2.2.2.2.2.2.1 _ (show ¬ (0 : Int32) < 0 ∧ (0 : Int32).toNatClampNeg < 7 by decide).2).1)).trans ?_
    exact r_aret rfl rfl
  · refine (r_iload_n rfl rfl rfl).trans ?_
    refine (r_aload_n rfl rfl rfl).trans ?_
    refine (r_getR (ci := 2) (sl := 0) s_E rfl rfl rfl h0.2.1 h0.1 h0.2.2.1 (n81 h0.2.1 (by decide))).trans ?_
    refine (r_alen (v := 7) rfl rfl h0.2.2.2.2.2.2.2.2.2.1 (ne9 (Nat.le_succ_of_le h0.1)) (by decide) rfl).trans ?_
    refine (r_icmp_ge rfl rfl rfl).trans ?_
    refine ite_congr rfl (fun h_1 => ?_) (fun h_1 => ?_)
    · refine (r_iload_n rfl rfl rfl).trans ?_
      refine (r_goto rfl rfl).trans ?_
      refine (r_aald s_E rfl rfl h0.2.2.2.2.2.2.2.2.2.1 (Or.inl rfl) (Nat.le_succ_of_le h0.1) (ixL (n := 7) (by decide) h_0 h_1) (by decide) (ne81 h0.2.2.2.2.2.2.2.2.2.1 (by decide)) ((h0.2.2.2.2.2.2.2.2.2.2.1 _ (ixL (n := 7) (by decide) h_0 h_1).2).1)).trans ?_
      exact r_aret rfl rfl
    · refine (r_iconst (v := 0) rfl rfl rfl).trans ?_
      refine (r_aald s_E rfl rfl h0.2.2.2.2.2.2.2.2.2.1 (Or.inl rfl) (Nat.le_succ_of_le h0.1) (show ¬ (0 : Int32) < 0 ∧ (0 : Int32).toNatClampNeg < 7 by decide) (by decide) (ne81 h0.2.2.2.2.2.2.2.2.2.1 (by decide)) ((h0.2.2.2.2.2.2.2.2.2.2.1 _ (show ¬ (0 : Int32) < 0 ∧ (0 : Int32).toNatClampNeg < 7 by decide).2).1)).trans ?_
      exact r_aret rfl rfl

theorem en_X2_lawOf {d : Nat} {E : pEv} {ro : Nat → Nat → Int32} {Q : Option Value → pH → Prop} (s_E : oE E) {x1 : Int32} : wX (d + 1) 21 [.ref 11, .int x1] (mkH E ro) Q = (if x1 = 0 then Q (some (.ref 22)) (mkH E ro) else Q (some (.ref 27)) (mkH E ro)) := by
  refine (wX_in rfl (by decide)).trans ?_
  show wG d 21 (0, [.ref 11, .int x1], [], mkH E ro) Q = _
  refine (r_iload_n rfl rfl rfl).trans ?_
  refine (r_if_ne rfl rfl rfl).trans ?_
  refine ite_congr rfl (fun h_0 => ?_) (fun h_0 => ?_)
  · refine (r_aload_n rfl rfl rfl).trans ?_
    refine (r_getR (ci := 2) (sl := 2) s_E rfl rfl rfl rfl (by decide) rfl rfl).trans ?_
    refine (r_goto rfl rfl).trans ?_
    exact r_aret rfl rfl
  · refine (r_aload_n rfl rfl rfl).trans ?_
    refine (r_getR (ci := 2) (sl := 3) s_E rfl rfl rfl rfl (by decide) rfl rfl).trans ?_
    exact r_aret rfl rfl

theorem en_X2_all {d : Nat} {E : pEv} {ro : Nat → Nat → Int32} {Q : Option Value → pH → Prop} (s_E : oE E) : wX (d + 1) 22 [.ref 11] (mkH E ro) Q = Q (some (.int (((1 : Int32) <<< ((ro 11 7) &&& 31)) - 1))) (mkH E ro) := by
  refine (wX_in rfl (by decide)).trans ?_
  show wG d 22 (0, [.ref 11], [], mkH E ro) Q = _
  refine (r_iconst (v := 1) rfl rfl rfl).trans ?_
  refine (r_aload_n rfl rfl rfl).trans ?_
  refine (r_getI (ci := 2) (sl := 7) rfl rfl rfl rfl (by decide)).trans ?_
  refine (r_ishl rfl rfl).trans ?_
  refine (r_iconst (v := 1) rfl rfl rfl).trans ?_
  refine (r_isub rfl rfl).trans ?_
  exact r_iret rfl rfl

theorem en_X2_open {d : Nat} {E : pEv} {ro : Nat → Nat → Int32} {Q : Option Value → pH → Prop} (s_E : oE E) {x1 : Int32} {x2 : Int32} {x3 : Int32} {x4 : Int32} : wX (d + 1) 23 [.ref 11, .int x1, .int x2, .int x3, .int x4] (mkH E ro) Q = wX d 20 [.ref 11, .int (ro 11 7)] (mkH E ro) (fun v h' => wG d 23 (12, [.ref 11, .int x1, .int x2, .int x3, .int x4, .int (ro 11 7)], pv v [], h') Q) := by
  refine (wX_in rfl (by decide)).trans ?_
  show wG d 23 (0, [.ref 11, .int x1, .int x2, .int x3, .int x4, .retAddr 0], [], mkH E ro) Q = _
  refine (r_aload_n rfl rfl rfl).trans ?_
  refine (r_getI (ci := 2) (sl := 7) rfl rfl rfl rfl (by decide)).trans ?_
  refine (r_istore rfl rfl rfl rfl).trans ?_
  refine (r_aload_n rfl rfl rfl).trans ?_
  refine (r_iload rfl rfl rfl).trans ?_
  exact r_inv (m := 20) (c := 2) rfl rfl rfl rfl rfl rfl rfl rfl

theorem sg_X2_open_12 {d : Nat} {E : pEv} {ro : Nat → Nat → Int32} {Q : Option Value → pH → Prop} (s_E : oE E) {x1 : Int32} {x2 : Int32} {x3 : Int32} {x4 : Int32} {x5 : Int32} {rs0 : Nat} (hs0 : oScene rs0) : wG d 23 (12, [.ref 11, .int x1, .int x2, .int x3, .int x4, .int x5], [.ref rs0], mkH E ro) Q = wX d 73 [.ref rs0, .int x1, .int x2, .int x3, .int x4] (mkH E ro) (fun v h' => wG d 23 (20, [.ref 11, .int x1, .int x2, .int x3, .int x4, .int x5], pv v [], h') Q) := by
  refine (r_iload_n rfl rfl rfl).trans ?_
  refine (r_iload_n rfl rfl rfl).trans ?_
  refine (r_iload_n rfl rfl rfl).trans ?_
  refine (r_iload rfl rfl rfl).trans ?_
  exact r_inv (m := 73) (c := 5) rfl rfl rfl rfl rfl rfl hs0.2.1 rfl

theorem sg_X2_open_20 {d : Nat} {E : pEv} {ro : Nat → Nat → Int32} {Q : Option Value → pH → Prop} (s_E : oE E) {x1 : Int32} {x2 : Int32} {x3 : Int32} {x4 : Int32} {x5 : Int32} : wG d 23 (20, [.ref 11, .int x1, .int x2, .int x3, .int x4, .int x5], [], mkH E ro) Q = wX d 61 [.ref 32, .int 0, .int x5] (mkH E ro) (fun v h' => wG d 23 (30, [.ref 11, .int x1, .int x2, .int x3, .int x4, .int x5], pv v [], h') Q) := by
  refine (r_aload_n rfl rfl rfl).trans ?_
  refine (r_getR (ci := 2) (sl := 4) s_E rfl rfl rfl rfl (by decide) rfl rfl).trans ?_
  refine (r_iconst (v := 0) rfl rfl rfl).trans ?_
  refine (r_iload rfl rfl rfl).trans ?_
  exact r_inv (m := 61) (c := 4) rfl rfl rfl rfl rfl rfl rfl rfl

theorem sg_X2_open_30 {d : Nat} {E : pEv} {ro : Nat → Nat → Int32} {Q : Option Value → pH → Prop} (s_E : oE E) {x1 : Int32} {x2 : Int32} {x3 : Int32} {x4 : Int32} {x5 : Int32} : wG d 23 (30, [.ref 11, .int x1, .int x2, .int x3, .int x4, .int x5], [], mkH E ro) Q = Q (some (.int x5)) (mkH E (uI ro 11 7 ((ro 11 7) + 1))) := by
  refine (r_aload_n rfl rfl rfl).trans ?_
  refine (r_dupR rfl rfl).trans ?_
  refine (r_getI (ci := 2) (sl := 7) rfl rfl rfl rfl (by decide)).trans ?_
  refine (r_iconst (v := 1) rfl rfl rfl).trans ?_
  refine (r_iadd rfl rfl).trans ?_
  refine (r_putI (ci := 2) (sl := 7) rfl rfl rfl rfl (by decide)).trans ?_
  refine (r_iload rfl rfl rfl).trans ?_
  exact r_iret rfl rfl

theorem en_X2_wills {d : Nat} {E : pEv} {ro : Nat → Nat → Int32} {Q : Option Value → pH → Prop} (s_E : oE E) : wX (d + 1) 24 [.ref 11] (mkH E ro) Q = wG d 24 (4, [.ref 11, .int 0, .int 0], [], mkH E ro) Q := by
  refine (wX_in rfl (by decide)).trans ?_
  show wG d 24 (0, [.ref 11, .retAddr 0, .retAddr 0], [], mkH E ro) Q = _
  refine (r_iconst (v := 0) rfl rfl rfl).trans ?_
  refine (r_istore_n rfl rfl rfl rfl).trans ?_
  refine (r_iconst (v := 0) rfl rfl rfl).trans ?_
  refine (r_istore_n rfl rfl rfl rfl).trans ?_
  exact rfl

theorem sg_X2_wills_4 {d : Nat} {E : pEv} {ro : Nat → Nat → Int32} {Q : Option Value → pH → Prop} (s_E : oE E) {x1 : Int32} {x2 : Int32} : wG d 24 (4, [.ref 11, .int x1, .int x2], [], mkH E ro) Q = (if x2 < (ro 11 7) then wX d 20 [.ref 11, .int x2] (mkH E ro) (fun v h' => wG d 24 (18, [.ref 11, .int x1, .int x2], pv v [.int x1], h') Q) else Q (some (.int x1)) (mkH E ro)) := by
  refine (r_iload_n rfl rfl rfl).trans ?_
  refine (r_aload_n rfl rfl rfl).trans ?_
  refine (r_getI (ci := 2) (sl := 7) rfl rfl rfl rfl (by decide)).trans ?_
  refine (r_icmp_ge rfl rfl rfl).trans ?_
  refine ite_congr rfl (fun h_0 => ?_) (fun h_0 => ?_)
  · refine (r_iload_n rfl rfl rfl).trans ?_
    refine (r_aload_n rfl rfl rfl).trans ?_
    refine (r_iload_n rfl rfl rfl).trans ?_
    exact r_inv (m := 20) (c := 2) rfl rfl rfl rfl rfl rfl rfl rfl
  · refine (r_iload_n rfl rfl rfl).trans ?_
    exact r_iret rfl rfl

theorem sg_X2_wills_18 {d : Nat} {E : pEv} {ro : Nat → Nat → Int32} {Q : Option Value → pH → Prop} (s_E : oE E) {x1 : Int32} {x2 : Int32} {xs0 : Int32} {rs1 : Nat} (hs1 : oScene rs1) : wG d 24 (18, [.ref 11, .int x1, .int x2], [.ref rs1, .int xs0], mkH E ro) Q = wG d 24 (4, [.ref 11, .int (xs0 ||| ((ro rs1 9) <<< (x2 &&& 31))), .int (x2 + 1)], [], mkH E ro) Q := by
  refine (r_getI (ci := 5) (sl := 9) rfl rfl rfl hs1.2.1 hs1.1).trans ?_
  refine (r_iload_n rfl rfl rfl).trans ?_
  refine (r_ishl rfl rfl).trans ?_
  refine (r_ior rfl rfl).trans ?_
  refine (r_istore_n rfl rfl rfl rfl).trans ?_
  refine (r_iinc (y := 1) rfl rfl rfl rfl rfl rfl).trans ?_
  refine (r_goto rfl rfl).trans ?_
  exact rfl

theorem en_X2_starts {d : Nat} {E : pEv} {ro : Nat → Nat → Int32} {Q : Option Value → pH → Prop} (s_E : oE E) : wX (d + 1) 25 [.ref 11] (mkH E ro) Q = wG d 25 (4, [.ref 11, .int 0, .int 0], [], mkH E ro) Q := by
  refine (wX_in rfl (by decide)).trans ?_
  show wG d 25 (0, [.ref 11, .retAddr 0, .retAddr 0], [], mkH E ro) Q = _
  refine (r_iconst (v := 0) rfl rfl rfl).trans ?_
  refine (r_istore_n rfl rfl rfl rfl).trans ?_
  refine (r_iconst (v := 0) rfl rfl rfl).trans ?_
  refine (r_istore_n rfl rfl rfl rfl).trans ?_
  exact rfl

theorem sg_X2_starts_4 {d : Nat} {E : pEv} {ro : Nat → Nat → Int32} {Q : Option Value → pH → Prop} (s_E : oE E) {x1 : Int32} {x2 : Int32} : wG d 25 (4, [.ref 11, .int x1, .int x2], [], mkH E ro) Q = (if x2 < (ro 11 7) then wX d 20 [.ref 11, .int x2] (mkH E ro) (fun v h' => wG d 25 (18, [.ref 11, .int x1, .int x2], pv v [.int x1], h') Q) else Q (some (.int x1)) (mkH E ro)) := by
  refine (r_iload_n rfl rfl rfl).trans ?_
  refine (r_aload_n rfl rfl rfl).trans ?_
  refine (r_getI (ci := 2) (sl := 7) rfl rfl rfl rfl (by decide)).trans ?_
  refine (r_icmp_ge rfl rfl rfl).trans ?_
  refine ite_congr rfl (fun h_0 => ?_) (fun h_0 => ?_)
  · refine (r_iload_n rfl rfl rfl).trans ?_
    refine (r_aload_n rfl rfl rfl).trans ?_
    refine (r_iload_n rfl rfl rfl).trans ?_
    exact r_inv (m := 20) (c := 2) rfl rfl rfl rfl rfl rfl rfl rfl
  · refine (r_iload_n rfl rfl rfl).trans ?_
    exact r_iret rfl rfl

theorem sg_X2_starts_18 {d : Nat} {E : pEv} {ro : Nat → Nat → Int32} {Q : Option Value → pH → Prop} (s_E : oE E) {x1 : Int32} {x2 : Int32} {xs0 : Int32} {rs1 : Nat} (hs1 : oScene rs1) : wG d 25 (18, [.ref 11, .int x1, .int x2], [.ref rs1, .int xs0], mkH E ro) Q = (if (ro rs1 3) = 0 then wX d 148 [.int 1] (mkH E ro) (fun v h' => wG d 25 (32, [.ref 11, .int x1, .int x2], pv v [.int xs0], h') Q) else wX d 148 [.int 0] (mkH E ro) (fun v h' => wG d 25 (32, [.ref 11, .int x1, .int x2], pv v [.int xs0], h') Q)) := by
  refine (r_getI (ci := 5) (sl := 3) rfl rfl rfl hs1.2.1 hs1.1).trans ?_
  refine (r_if_ne rfl rfl rfl).trans ?_
  refine ite_congr rfl (fun h_0 => ?_) (fun h_0 => ?_)
  · refine (r_iconst (v := 1) rfl rfl rfl).trans ?_
    refine (r_goto rfl rfl).trans ?_
    exact r_ins (m := 148) rfl rfl rfl rfl rfl rfl
  · refine (r_iconst (v := 0) rfl rfl rfl).trans ?_
    exact r_ins (m := 148) rfl rfl rfl rfl rfl rfl

theorem sg_X2_starts_32 {d : Nat} {E : pEv} {ro : Nat → Nat → Int32} {Q : Option Value → pH → Prop} (s_E : oE E) {x1 : Int32} {x2 : Int32} {xs0 : Int32} {xs1 : Int32} : wG d 25 (32, [.ref 11, .int x1, .int x2], [.int xs1, .int xs0], mkH E ro) Q = wG d 25 (4, [.ref 11, .int (xs0 ||| (xs1 <<< (x2 &&& 31))), .int (x2 + 1)], [], mkH E ro) Q := by
  refine (r_iload_n rfl rfl rfl).trans ?_
  refine (r_ishl rfl rfl).trans ?_
  refine (r_ior rfl rfl).trans ?_
  refine (r_istore_n rfl rfl rfl rfl).trans ?_
  refine (r_iinc (y := 1) rfl rfl rfl rfl rfl rfl).trans ?_
  refine (r_goto rfl rfl).trans ?_
  exact rfl

theorem en_X2_happening {d : Nat} {E : pEv} {ro : Nat → Nat → Int32} {Q : Option Value → pH → Prop} (s_E : oE E) : wX (d + 1) 26 [.ref 11] (mkH E ro) Q = wX d 24 [.ref 11] (mkH E ro) (fun v h' => wG d 26 (5, [.ref 11], pv v [.ref 11], h') Q) := by
  refine (wX_in rfl (by decide)).trans ?_
  show wG d 26 (0, [.ref 11], [], mkH E ro) Q = _
  refine (r_aload_n rfl rfl rfl).trans ?_
  refine (r_aload_n rfl rfl rfl).trans ?_
  exact r_inv (m := 24) (c := 2) rfl rfl rfl rfl rfl rfl rfl rfl

theorem sg_X2_happening_5 {d : Nat} {E : pEv} {ro : Nat → Nat → Int32} {Q : Option Value → pH → Prop} (s_E : oE E) {xs1 : Int32} : wG d 26 (5, [.ref 11], [.int xs1, .ref 11], mkH E ro) Q = wX d 27 [.ref 11, .int xs1, .int (-1), .int 0] (mkH E ro) (fun v h' => wG d 26 (10, [.ref 11], pv v [], h') Q) := by
  refine (r_iconst (v := (-1)) rfl rfl rfl).trans ?_
  refine (r_iconst (v := 0) rfl rfl rfl).trans ?_
  exact r_inv (m := 27) (c := 2) rfl rfl rfl rfl rfl rfl rfl rfl

theorem sg_X2_happening_10 {d : Nat} {E : pEv} {ro : Nat → Nat → Int32} {Q : Option Value → pH → Prop} (s_E : oE E) {xs0 : Int32} : wG d 26 (10, [.ref 11], [.int xs0], mkH E ro) Q = Q (some (.int xs0)) (mkH E ro) := by
  exact r_iret rfl rfl

theorem en_X2_outcome {d : Nat} {E : pEv} {ro : Nat → Nat → Int32} {Q : Option Value → pH → Prop} (s_E : oE E) {x1 : Int32} {x2 : Int32} {x3 : Int32} : wX (d + 1) 27 [.ref 11, .int x1, .int x2, .int x3] (mkH E ro) Q = wG d 27 (6, [.ref 11, .int x1, .int x2, .int x3, .int 0, .int 0, .retAddr 0, .retAddr 0], [], mkH E ro) Q := by
  refine (wX_in rfl (by decide)).trans ?_
  show wG d 27 (0, [.ref 11, .int x1, .int x2, .int x3, .retAddr 0, .retAddr 0, .retAddr 0, .retAddr 0], [], mkH E ro) Q = _
  refine (r_iconst (v := 0) rfl rfl rfl).trans ?_
  refine (r_istore rfl rfl rfl rfl).trans ?_
  refine (r_iconst (v := 0) rfl rfl rfl).trans ?_
  refine (r_istore rfl rfl rfl rfl).trans ?_
  exact rfl

theorem sg_X2_outcome_6 {d : Nat} {E : pEv} {ro : Nat → Nat → Int32} {Q : Option Value → pH → Prop} (s_E : oE E) {x1 : Int32} {x2 : Int32} {x3 : Int32} {x4 : Int32} {x5 : Int32} {v6 : Value} {v7 : Value} : wG d 27 (6, [.ref 11, .int x1, .int x2, .int x3, .int x4, .int x5, v6, v7], [], mkH E ro) Q = (if x5 < (ro 11 7) then wX d 20 [.ref 11, .int x5] (mkH E ro) (fun v h' => wG d 27 (21, [.ref 11, .int x1, .int x2, .int x3, .int x4, .int x5, v6, v7], pv v [], h') Q) else Q (some (.int x4)) (mkH E ro)) := by
  refine (r_iload rfl rfl rfl).trans ?_
  refine (r_aload_n rfl rfl rfl).trans ?_
  refine (r_getI (ci := 2) (sl := 7) rfl rfl rfl rfl (by decide)).trans ?_
  refine (r_icmp_ge rfl rfl rfl).trans ?_
  refine ite_congr rfl (fun h_0 => ?_) (fun h_0 => ?_)
  · refine (r_aload_n rfl rfl rfl).trans ?_
    refine (r_iload rfl rfl rfl).trans ?_
    exact r_inv (m := 20) (c := 2) rfl rfl rfl rfl rfl rfl rfl rfl
  · refine (r_iload rfl rfl rfl).trans ?_
    exact r_iret rfl rfl

theorem sg_X2_outcome_21 {d : Nat} {E : pEv} {ro : Nat → Nat → Int32} {Q : Option Value → pH → Prop} (s_E : oE E) {x1 : Int32} {x2 : Int32} {x3 : Int32} {x4 : Int32} {x5 : Int32} {v6 : Value} {v7 : Value} {rs0 : Nat} (hs0 : oScene rs0) : wG d 27 (21, [.ref 11, .int x1, .int x2, .int x3, .int x4, .int x5, v6, v7], [.ref rs0], mkH E ro) Q = (if (ro rs0 3) = 0 then (if ((x1 >>> (x5 &&& 31)) &&& 1) = 1 then wX d 148 [.int 1] (mkH E ro) (fun v h' => wG d 27 (91, [.ref 11, .int x1, .int x2, .int x3, .int x4, .int x5, .ref rs0, .int 1], pv v [.int x4], h') Q) else wX d 148 [.int 0] (mkH E ro) (fun v h' => wG d 27 (91, [.ref 11, .int x1, .int x2, .int x3, .int x4, .int x5, .ref rs0, .int 0], pv v [.int x4], h') Q)) else wX d 255 [.int ((ro rs0 3) &&& x4)] (mkH E ro) (fun v h' => wG d 27 (64, [.ref 11, .int x1, .int x2, .int x3, .int x4, .int x5, .ref rs0, v7], pv v [.ref rs0], h') Q)) := by
  refine (r_astore rfl rfl rfl rfl).trans ?_
  refine (r_aload rfl rfl rfl).trans ?_
  refine (r_getI (ci := 5) (sl := 3) rfl rfl rfl hs0.2.1 hs0.1).trans ?_
  refine (r_if_ne rfl rfl rfl).trans ?_
  refine ite_congr rfl (fun h_0 => ?_) (fun h_0 => ?_)
  · refine (r_iload_n rfl rfl rfl).trans ?_
    refine (r_iload rfl rfl rfl).trans ?_
    refine (r_ishr rfl rfl).trans ?_
    refine (r_iconst (v := 1) rfl rfl rfl).trans ?_
    refine (r_iand rfl rfl).trans ?_
    refine (r_iconst (v := 1) rfl rfl rfl).trans ?_
    refine (r_icmp_ne rfl rfl rfl).trans ?_
    refine ite_congr rfl (fun h_1 => ?_) (fun h_1 => ?_)
    · refine (r_iconst (v := 1) rfl rfl rfl).trans ?_
      refine (r_goto rfl rfl).trans ?_
      refine (r_istore rfl rfl rfl rfl).trans ?_
      refine (r_goto rfl rfl).trans ?_
      refine (r_iload rfl rfl rfl).trans ?_
      refine (r_iload rfl rfl rfl).trans ?_
      exact r_ins (m := 148) rfl rfl rfl rfl rfl rfl
    · refine (r_iconst (v := 0) rfl rfl rfl).trans ?_
      refine (r_istore rfl rfl rfl rfl).trans ?_
      refine (r_goto rfl rfl).trans ?_
      refine (r_iload rfl rfl rfl).trans ?_
      refine (r_iload rfl rfl rfl).trans ?_
      exact r_ins (m := 148) rfl rfl rfl rfl rfl rfl
  · refine (r_aload rfl rfl rfl).trans ?_
    refine (r_aload rfl rfl rfl).trans ?_
    refine (r_getI (ci := 5) (sl := 3) rfl rfl rfl hs0.2.1 hs0.1).trans ?_
    refine (r_iload rfl rfl rfl).trans ?_
    refine (r_iand rfl rfl).trans ?_
    exact r_ins (m := 255) rfl rfl rfl rfl rfl rfl

theorem sg_X2_outcome_64 {d : Nat} {E : pEv} {ro : Nat → Nat → Int32} {Q : Option Value → pH → Prop} (s_E : oE E) {x1 : Int32} {x2 : Int32} {x3 : Int32} {x4 : Int32} {x5 : Int32} {r6 : Nat} (h6 : oScene r6) {v7 : Value} {rs0 : Nat} (hs0 : oScene rs0) {xs1 : Int32} : wG d 27 (64, [.ref 11, .int x1, .int x2, .int x3, .int x4, .int x5, .ref r6, v7], [.int xs1, .ref rs0], mkH E ro) Q = (if x5 = x2 then wX d 79 [.ref rs0, .int xs1, .int x3] (mkH E ro) (fun v h' => wG d 27 (82, [.ref 11, .int x1, .int x2, .int x3, .int x4, .int x5, .ref r6, v7], pv v [], h') Q) else wX d 79 [.ref rs0, .int xs1, .int (ro r6 1)] (mkH E ro) (fun v h' => wG d 27 (82, [.ref 11, .int x1, .int x2, .int x3, .int x4, .int x5, .ref r6, v7], pv v [], h') Q)) := by
  refine (r_iload rfl rfl rfl).trans ?_
  refine (r_iload_n rfl rfl rfl).trans ?_
  refine (r_icmp_ne rfl rfl rfl).trans ?_
  refine ite_congr rfl (fun h_0 => ?_) (fun h_0 => ?_)
  · refine (r_iload_n rfl rfl rfl).trans ?_
    refine (r_goto rfl rfl).trans ?_
    exact r_inv (m := 79) (c := 5) rfl rfl rfl rfl rfl rfl hs0.2.1 rfl
  · refine (r_aload rfl rfl rfl).trans ?_
    refine (r_getI (ci := 5) (sl := 1) rfl rfl rfl h6.2.1 h6.1).trans ?_
    exact r_inv (m := 79) (c := 5) rfl rfl rfl rfl rfl rfl hs0.2.1 rfl

theorem sg_X2_outcome_82 {d : Nat} {E : pEv} {ro : Nat → Nat → Int32} {Q : Option Value → pH → Prop} (s_E : oE E) {x1 : Int32} {x2 : Int32} {x3 : Int32} {x4 : Int32} {x5 : Int32} {r6 : Nat} (h6 : oScene r6) {v7 : Value} {xs0 : Int32} : wG d 27 (82, [.ref 11, .int x1, .int x2, .int x3, .int x4, .int x5, .ref r6, v7], [.int xs0], mkH E ro) Q = wX d 148 [.int xs0] (mkH E ro) (fun v h' => wG d 27 (91, [.ref 11, .int x1, .int x2, .int x3, .int x4, .int x5, .ref r6, .int xs0], pv v [.int x4], h') Q) := by
  refine (r_istore rfl rfl rfl rfl).trans ?_
  refine (r_iload rfl rfl rfl).trans ?_
  refine (r_iload rfl rfl rfl).trans ?_
  exact r_ins (m := 148) rfl rfl rfl rfl rfl rfl

theorem sg_X2_outcome_91 {d : Nat} {E : pEv} {ro : Nat → Nat → Int32} {Q : Option Value → pH → Prop} (s_E : oE E) {x1 : Int32} {x2 : Int32} {x3 : Int32} {x4 : Int32} {x5 : Int32} {r6 : Nat} (h6 : oScene r6) {x7 : Int32} {xs0 : Int32} {xs1 : Int32} : wG d 27 (91, [.ref 11, .int x1, .int x2, .int x3, .int x4, .int x5, .ref r6, .int x7], [.int xs1, .int xs0], mkH E ro) Q = wG d 27 (6, [.ref 11, .int x1, .int x2, .int x3, .int (xs0 ||| (xs1 <<< (x5 &&& 31))), .int (x5 + 1), .ref r6, .int x7], [], mkH E ro) Q := by
  refine (r_iload rfl rfl rfl).trans ?_
  refine (r_ishl rfl rfl).trans ?_
  refine (r_ior rfl rfl).trans ?_
  refine (r_istore rfl rfl rfl rfl).trans ?_
  refine (r_iinc (y := 1) rfl rfl rfl rfl rfl rfl).trans ?_
  refine (r_goto rfl rfl).trans ?_
  exact rfl

theorem en_X2_killedBy {d : Nat} {E : pEv} {ro : Nat → Nat → Int32} {Q : Option Value → pH → Prop} (s_E : oE E) {x1 : Int32} {x2 : Int32} : wX (d + 1) 28 [.ref 11, .int x1, .int x2] (mkH E ro) Q = wX d 20 [.ref 11, .int x1] (mkH E ro) (fun v h' => wG d 28 (5, [.ref 11, .int x1, .int x2, .retAddr 0, .retAddr 0], pv v [], h') Q) := by
  refine (wX_in rfl (by decide)).trans ?_
  show wG d 28 (0, [.ref 11, .int x1, .int x2, .retAddr 0, .retAddr 0], [], mkH E ro) Q = _
  refine (r_aload_n rfl rfl rfl).trans ?_
  refine (r_iload_n rfl rfl rfl).trans ?_
  exact r_inv (m := 20) (c := 2) rfl rfl rfl rfl rfl rfl rfl rfl

theorem sg_X2_killedBy_5 {d : Nat} {E : pEv} {ro : Nat → Nat → Int32} {Q : Option Value → pH → Prop} (s_E : oE E) {x1 : Int32} {x2 : Int32} {v3 : Value} {v4 : Value} {rs0 : Nat} (hs0 : oScene rs0) : wG d 28 (5, [.ref 11, .int x1, .int x2, v3, v4], [.ref rs0], mkH E ro) Q = (if ((x2 >>> (x1 &&& 31)) &&& 1) = 1 then wX d 151 [.int (ro rs0 1), .int 3] (mkH E ro) (fun v h' => wG d 28 (23, [.ref 11, .int x1, .int x2, .ref rs0, v4], pv v [], h') Q) else Q (some (.int 0)) (mkH E ro)) := by
  refine (r_astore_n rfl rfl rfl rfl).trans ?_
  refine (r_iload_n rfl rfl rfl).trans ?_
  refine (r_iload_n rfl rfl rfl).trans ?_
  refine (r_ishr rfl rfl).trans ?_
  refine (r_iconst (v := 1) rfl rfl rfl).trans ?_
  refine (r_iand rfl rfl).trans ?_
  refine (r_iconst (v := 1) rfl rfl rfl).trans ?_
  refine (r_icmp_ne rfl rfl rfl).trans ?_
  refine ite_congr rfl (fun h_0 => ?_) (fun h_0 => ?_)
  · refine (r_aload_n rfl rfl rfl).trans ?_
    refine (r_getI (ci := 5) (sl := 1) rfl rfl rfl hs0.2.1 hs0.1).trans ?_
    refine (r_iconst (v := 3) rfl rfl rfl).trans ?_
    exact r_ins (m := 151) rfl rfl rfl rfl rfl rfl
  · refine (r_iconst (v := 0) rfl rfl rfl).trans ?_
    refine (r_istore rfl rfl rfl rfl).trans ?_
    refine (r_iload rfl rfl rfl).trans ?_
    refine (r_if_eq rfl rfl rfl).trans ?_
    refine (if_pos (by decide)).trans ?_
    refine (r_iconst (v := 0) rfl rfl rfl).trans ?_
    exact r_iret rfl rfl

theorem sg_X2_killedBy_23 {d : Nat} {E : pEv} {ro : Nat → Nat → Int32} {Q : Option Value → pH → Prop} (s_E : oE E) {x1 : Int32} {x2 : Int32} {r3 : Nat} (h3 : oScene r3) {v4 : Value} {xs0 : Int32} : wG d 28 (23, [.ref 11, .int x1, .int x2, .ref r3, v4], [.int xs0], mkH E ro) Q = (if xs0 = 0 then Q (some (.int 0)) (mkH E ro) else Q (some (.int ((ro r3 5) &&& (-(ro r3 5))))) (mkH E ro)) := by
  refine (r_if_eq rfl rfl rfl).trans ?_
  refine ite_congr rfl (fun h_0 => ?_) (fun h_0 => ?_)
  · refine (r_iconst (v := 0) rfl rfl rfl).trans ?_
    refine (r_istore rfl rfl rfl rfl).trans ?_
    refine (r_iload rfl rfl rfl).trans ?_
    refine (r_if_eq rfl rfl rfl).trans ?_
    refine (if_pos (by decide)).trans ?_
    refine (r_iconst (v := 0) rfl rfl rfl).trans ?_
    exact r_iret rfl rfl
  · refine (r_iconst (v := 1) rfl rfl rfl).trans ?_
    refine (r_goto rfl rfl).trans ?_
    refine (r_istore rfl rfl rfl rfl).trans ?_
    refine (r_iload rfl rfl rfl).trans ?_
    refine (r_if_eq rfl rfl rfl).trans ?_
    refine (if_neg (by decide)).trans ?_
    refine (r_aload_n rfl rfl rfl).trans ?_
    refine (r_getI (ci := 5) (sl := 5) rfl rfl rfl h3.2.1 h3.1).trans ?_
    refine (r_aload_n rfl rfl rfl).trans ?_
    refine (r_getI (ci := 5) (sl := 5) rfl rfl rfl h3.2.1 h3.1).trans ?_
    refine (r_ineg rfl rfl).trans ?_
    refine (r_iand rfl rfl).trans ?_
    refine (r_goto rfl rfl).trans ?_
    exact r_iret rfl rfl

theorem en_X2_isBroken {d : Nat} {E : pEv} {ro : Nat → Nat → Int32} {Q : Option Value → pH → Prop} (s_E : oE E) {x1 : Int32} {x2 : Int32} : wX (d + 1) 29 [.ref 11, .int x1, .int x2] (mkH E ro) Q = wG d 29 (5, [.ref 11, .int x1, .int x2, .int 0, .int 0], [], mkH E ro) Q := by
  refine (wX_in rfl (by decide)).trans ?_
  show wG d 29 (0, [.ref 11, .int x1, .int x2, .retAddr 0, .retAddr 0], [], mkH E ro) Q = _
  refine (r_iconst (v := 0) rfl rfl rfl).trans ?_
  refine (r_istore_n rfl rfl rfl rfl).trans ?_
  refine (r_iconst (v := 0) rfl rfl rfl).trans ?_
  refine (r_istore rfl rfl rfl rfl).trans ?_
  exact rfl

theorem sg_X2_isBroken_5 {d : Nat} {E : pEv} {ro : Nat → Nat → Int32} {Q : Option Value → pH → Prop} (s_E : oE E) {x1 : Int32} {x2 : Int32} {x3 : Int32} {x4 : Int32} : wG d 29 (5, [.ref 11, .int x1, .int x2, .int x3, .int x4], [], mkH E ro) Q = (if x4 < x1 then wX d 28 [.ref 11, .int x4, .int x2] (mkH E ro) (fun v h' => wG d 29 (19, [.ref 11, .int x1, .int x2, .int x3, .int x4], pv v [.int x3], h') Q) else wX d 20 [.ref 11, .int x1] (mkH E ro) (fun v h' => wG d 29 (32, [.ref 11, .int x1, .int x2, .int x3, .int x4], pv v [], h') Q)) := by
  refine (r_iload rfl rfl rfl).trans ?_
  refine (r_iload_n rfl rfl rfl).trans ?_
  refine (r_icmp_ge rfl rfl rfl).trans ?_
  refine ite_congr rfl (fun h_0 => ?_) (fun h_0 => ?_)
  · refine (r_iload_n rfl rfl rfl).trans ?_
    refine (r_aload_n rfl rfl rfl).trans ?_
    refine (r_iload rfl rfl rfl).trans ?_
    refine (r_iload_n rfl rfl rfl).trans ?_
    exact r_inv (m := 28) (c := 2) rfl rfl rfl rfl rfl rfl rfl rfl
  · refine (r_aload_n rfl rfl rfl).trans ?_
    refine (r_iload_n rfl rfl rfl).trans ?_
    exact r_inv (m := 20) (c := 2) rfl rfl rfl rfl rfl rfl rfl rfl

theorem sg_X2_isBroken_19 {d : Nat} {E : pEv} {ro : Nat → Nat → Int32} {Q : Option Value → pH → Prop} (s_E : oE E) {x1 : Int32} {x2 : Int32} {x3 : Int32} {x4 : Int32} {xs0 : Int32} {xs1 : Int32} : wG d 29 (19, [.ref 11, .int x1, .int x2, .int x3, .int x4], [.int xs1, .int xs0], mkH E ro) Q = wG d 29 (5, [.ref 11, .int x1, .int x2, .int (xs0 ||| xs1), .int (x4 + 1)], [], mkH E ro) Q := by
  refine (r_ior rfl rfl).trans ?_
  refine (r_istore_n rfl rfl rfl rfl).trans ?_
  refine (r_iinc (y := 1) rfl rfl rfl rfl rfl rfl).trans ?_
  refine (r_goto rfl rfl).trans ?_
  exact rfl

theorem sg_X2_isBroken_32 {d : Nat} {E : pEv} {ro : Nat → Nat → Int32} {Q : Option Value → pH → Prop} (s_E : oE E) {x1 : Int32} {x2 : Int32} {x3 : Int32} {x4 : Int32} {rs0 : Nat} (hs0 : oScene rs0) : wG d 29 (32, [.ref 11, .int x1, .int x2, .int x3, .int x4], [.ref rs0], mkH E ro) Q = (if ((ro rs0 5) &&& x3) = 0 then Q (some (.int 0)) (mkH E ro) else Q (some (.int 1)) (mkH E ro)) := by
  refine (r_getI (ci := 5) (sl := 5) rfl rfl rfl hs0.2.1 hs0.1).trans ?_
  refine (r_iload_n rfl rfl rfl).trans ?_
  refine (r_iand rfl rfl).trans ?_
  refine (r_if_eq rfl rfl rfl).trans ?_
  refine ite_congr rfl (fun h_0 => ?_) (fun h_0 => ?_)
  · refine (r_iconst (v := 0) rfl rfl rfl).trans ?_
    exact r_zret rfl rfl rfl
  · refine (r_iconst (v := 1) rfl rfl rfl).trans ?_
    refine (r_goto rfl rfl).trans ?_
    exact r_zret rfl rfl rfl

theorem en_X2_firstBroken {d : Nat} {E : pEv} {ro : Nat → Nat → Int32} {Q : Option Value → pH → Prop} (s_E : oE E) : wX (d + 1) 30 [.ref 11] (mkH E ro) Q = wX d 26 [.ref 11] (mkH E ro) (fun v h' => wG d 30 (4, [.ref 11, .retAddr 0, .retAddr 0], pv v [], h') Q) := by
  refine (wX_in rfl (by decide)).trans ?_
  show wG d 30 (0, [.ref 11, .retAddr 0, .retAddr 0], [], mkH E ro) Q = _
  refine (r_aload_n rfl rfl rfl).trans ?_
  exact r_inv (m := 26) (c := 2) rfl rfl rfl rfl rfl rfl rfl rfl

theorem sg_X2_firstBroken_4 {d : Nat} {E : pEv} {ro : Nat → Nat → Int32} {Q : Option Value → pH → Prop} (s_E : oE E) {v1 : Value} {v2 : Value} {xs0 : Int32} : wG d 30 (4, [.ref 11, v1, v2], [.int xs0], mkH E ro) Q = wG d 30 (7, [.ref 11, .int xs0, .int 0], [], mkH E ro) Q := by
  refine (r_istore_n rfl rfl rfl rfl).trans ?_
  refine (r_iconst (v := 0) rfl rfl rfl).trans ?_
  refine (r_istore_n rfl rfl rfl rfl).trans ?_
  exact rfl

theorem sg_X2_firstBroken_7 {d : Nat} {E : pEv} {ro : Nat → Nat → Int32} {Q : Option Value → pH → Prop} (s_E : oE E) {x1 : Int32} {x2 : Int32} : wG d 30 (7, [.ref 11, .int x1, .int x2], [], mkH E ro) Q = (if x2 < (ro 11 7) then wX d 57 [.ref 32, .int x2] (mkH E ro) (fun v h' => wG d 30 (24, [.ref 11, .int x1, .int x2], pv v [.ref 11], h') Q) else Q (some (.int (-1))) (mkH E ro)) := by
  refine (r_iload_n rfl rfl rfl).trans ?_
  refine (r_aload_n rfl rfl rfl).trans ?_
  refine (r_getI (ci := 2) (sl := 7) rfl rfl rfl rfl (by decide)).trans ?_
  refine (r_icmp_ge rfl rfl rfl).trans ?_
  refine ite_congr rfl (fun h_0 => ?_) (fun h_0 => ?_)
  · refine (r_aload_n rfl rfl rfl).trans ?_
    refine (r_aload_n rfl rfl rfl).trans ?_
    refine (r_getR (ci := 2) (sl := 4) s_E rfl rfl rfl rfl (by decide) rfl rfl).trans ?_
    refine (r_iload_n rfl rfl rfl).trans ?_
    exact r_inv (m := 57) (c := 4) rfl rfl rfl rfl rfl rfl rfl rfl
  · refine (r_iconst (v := (-1)) rfl rfl rfl).trans ?_
    exact r_iret rfl rfl

theorem sg_X2_firstBroken_24 {d : Nat} {E : pEv} {ro : Nat → Nat → Int32} {Q : Option Value → pH → Prop} (s_E : oE E) {x1 : Int32} {x2 : Int32} {xs1 : Int32} : wG d 30 (24, [.ref 11, .int x1, .int x2], [.int xs1, .ref 11], mkH E ro) Q = wX d 29 [.ref 11, .int xs1, .int x1] (mkH E ro) (fun v h' => wG d 30 (28, [.ref 11, .int x1, .int x2], pv v [], h') Q) := by
  refine (r_iload_n rfl rfl rfl).trans ?_
  exact r_inv (m := 29) (c := 2) rfl rfl rfl rfl rfl rfl rfl rfl

theorem sg_X2_firstBroken_28 {d : Nat} {E : pEv} {ro : Nat → Nat → Int32} {Q : Option Value → pH → Prop} (s_E : oE E) {x1 : Int32} {x2 : Int32} {xs0 : Int32} : wG d 30 (28, [.ref 11, .int x1, .int x2], [.int xs0], mkH E ro) Q = (if xs0 = 0 then wG d 30 (7, [.ref 11, .int x1, .int (x2 + 1)], [], mkH E ro) Q else Q (some (.int x2)) (mkH E ro)) := by
  refine (r_if_eq rfl rfl rfl).trans ?_
  refine ite_congr rfl (fun h_0 => ?_) (fun h_0 => ?_)
  · refine (r_iinc (y := 1) rfl rfl rfl rfl rfl rfl).trans ?_
    refine (r_goto rfl rfl).trans ?_
    exact rfl
  · refine (r_iload_n rfl rfl rfl).trans ?_
    exact r_iret rfl rfl

theorem en_X2_givenAhead {d : Nat} {E : pEv} {ro : Nat → Nat → Int32} {Q : Option Value → pH → Prop} (s_E : oE E) {x1 : Int32} : wX (d + 1) 31 [.ref 11, .int x1] (mkH E ro) Q = wG d 31 (4, [.ref 11, .int x1, .int 0, .int 0], [], mkH E ro) Q := by
  refine (wX_in rfl (by decide)).trans ?_
  show wG d 31 (0, [.ref 11, .int x1, .retAddr 0, .retAddr 0], [], mkH E ro) Q = _
  refine (r_iconst (v := 0) rfl rfl rfl).trans ?_
  refine (r_istore_n rfl rfl rfl rfl).trans ?_
  refine (r_iconst (v := 0) rfl rfl rfl).trans ?_
  refine (r_istore_n rfl rfl rfl rfl).trans ?_
  exact rfl

theorem sg_X2_givenAhead_4 {d : Nat} {E : pEv} {ro : Nat → Nat → Int32} {Q : Option Value → pH → Prop} (s_E : oE E) {x1 : Int32} {x2 : Int32} {x3 : Int32} : wG d 31 (4, [.ref 11, .int x1, .int x2, .int x3], [], mkH E ro) Q = (if x3 < x1 then wX d 57 [.ref 32, .int x3] (mkH E ro) (fun v h' => wG d 31 (19, [.ref 11, .int x1, .int x2, .int x3], pv v [.int 1, .int x2], h') Q) else Q (some (.int x2)) (mkH E ro)) := by
  refine (r_iload_n rfl rfl rfl).trans ?_
  refine (r_iload_n rfl rfl rfl).trans ?_
  refine (r_icmp_ge rfl rfl rfl).trans ?_
  refine ite_congr rfl (fun h_0 => ?_) (fun h_0 => ?_)
  · refine (r_iload_n rfl rfl rfl).trans ?_
    refine (r_iconst (v := 1) rfl rfl rfl).trans ?_
    refine (r_aload_n rfl rfl rfl).trans ?_
    refine (r_getR (ci := 2) (sl := 4) s_E rfl rfl rfl rfl (by decide) rfl rfl).trans ?_
    refine (r_iload_n rfl rfl rfl).trans ?_
    exact r_inv (m := 57) (c := 4) rfl rfl rfl rfl rfl rfl rfl rfl
  · refine (r_iload_n rfl rfl rfl).trans ?_
    exact r_iret rfl rfl

theorem sg_X2_givenAhead_19 {d : Nat} {E : pEv} {ro : Nat → Nat → Int32} {Q : Option Value → pH → Prop} (s_E : oE E) {x1 : Int32} {x2 : Int32} {x3 : Int32} {xs0 : Int32} {xs1 : Int32} {xs2 : Int32} : wG d 31 (19, [.ref 11, .int x1, .int x2, .int x3], [.int xs2, .int xs1, .int xs0], mkH E ro) Q = wG d 31 (4, [.ref 11, .int x1, .int (xs0 ||| (xs1 <<< (xs2 &&& 31))), .int (x3 + 1)], [], mkH E ro) Q := by
  refine (r_ishl rfl rfl).trans ?_
  refine (r_ior rfl rfl).trans ?_
  refine (r_istore_n rfl rfl rfl rfl).trans ?_
  refine (r_iinc (y := 1) rfl rfl rfl rfl rfl rfl).trans ?_
  refine (r_goto rfl rfl).trans ?_
  exact rfl

theorem en_X2_guessAt {d : Nat} {E : pEv} {ro : Nat → Nat → Int32} {Q : Option Value → pH → Prop} (s_E : oE E) {x1 : Int32} : wX (d + 1) 32 [.ref 11, .int x1] (mkH E ro) Q = wX d 57 [.ref 32, .int x1] (mkH E ro) (fun v h' => wG d 32 (8, [.ref 11, .int x1, .retAddr 0], pv v [], h') Q) := by
  refine (wX_in rfl (by decide)).trans ?_
  show wG d 32 (0, [.ref 11, .int x1, .retAddr 0], [], mkH E ro) Q = _
  refine (r_aload_n rfl rfl rfl).trans ?_
  refine (r_getR (ci := 2) (sl := 4) s_E rfl rfl rfl rfl (by decide) rfl rfl).trans ?_
  refine (r_iload_n rfl rfl rfl).trans ?_
  exact r_inv (m := 57) (c := 4) rfl rfl rfl rfl rfl rfl rfl rfl

theorem sg_X2_guessAt_8 {d : Nat} {E : pEv} {ro : Nat → Nat → Int32} {Q : Option Value → pH → Prop} (s_E : oE E) {x1 : Int32} {v2 : Value} {xs0 : Int32} : wG d 32 (8, [.ref 11, .int x1, v2], [.int xs0], mkH E ro) Q = wX d 20 [.ref 11, .int xs0] (mkH E ro) (fun v h' => wG d 32 (16, [.ref 11, .int x1, .int xs0], pv v [.int xs0, .ref 11], h') Q) := by
  refine (r_istore_n rfl rfl rfl rfl).trans ?_
  refine (r_aload_n rfl rfl rfl).trans ?_
  refine (r_iload_n rfl rfl rfl).trans ?_
  refine (r_aload_n rfl rfl rfl).trans ?_
  refine (r_iload_n rfl rfl rfl).trans ?_
  exact r_inv (m := 20) (c := 2) rfl rfl rfl rfl rfl rfl rfl rfl

theorem sg_X2_guessAt_16 {d : Nat} {E : pEv} {ro : Nat → Nat → Int32} {Q : Option Value → pH → Prop} (s_E : oE E) {x1 : Int32} {x2 : Int32} {xs1 : Int32} {rs2 : Nat} (hs2 : oScene rs2) : wG d 32 (16, [.ref 11, .int x1, .int x2], [.ref rs2, .int xs1, .ref 11], mkH E ro) Q = wX d 31 [.ref 11, .int x1] (mkH E ro) (fun v h' => wG d 32 (24, [.ref 11, .int x1, .int x2], pv v [.int (ro rs2 3), .int xs1, .ref 11], h') Q) := by
  refine (r_getI (ci := 5) (sl := 3) rfl rfl rfl hs2.2.1 hs2.1).trans ?_
  refine (r_aload_n rfl rfl rfl).trans ?_
  refine (r_iload_n rfl rfl rfl).trans ?_
  exact r_inv (m := 31) (c := 2) rfl rfl rfl rfl rfl rfl rfl rfl

theorem sg_X2_guessAt_24 {d : Nat} {E : pEv} {ro : Nat → Nat → Int32} {Q : Option Value → pH → Prop} (s_E : oE E) {x1 : Int32} {x2 : Int32} {xs1 : Int32} {xs2 : Int32} {xs3 : Int32} : wG d 32 (24, [.ref 11, .int x1, .int x2], [.int xs3, .int xs2, .int xs1, .ref 11], mkH E ro) Q = wX d 255 [.int (xs2 &&& (xs3 ^^^ (-1)))] (mkH E ro) (fun v h' => wG d 32 (30, [.ref 11, .int x1, .int x2], pv v [.int xs1, .ref 11], h') Q) := by
  refine (r_iconst (v := (-1)) rfl rfl rfl).trans ?_
  refine (r_ixor rfl rfl).trans ?_
  refine (r_iand rfl rfl).trans ?_
  exact r_ins (m := 255) rfl rfl rfl rfl rfl rfl

theorem sg_X2_guessAt_30 {d : Nat} {E : pEv} {ro : Nat → Nat → Int32} {Q : Option Value → pH → Prop} (s_E : oE E) {x1 : Int32} {x2 : Int32} {xs1 : Int32} {xs2 : Int32} : wG d 32 (30, [.ref 11, .int x1, .int x2], [.int xs2, .int xs1, .ref 11], mkH E ro) Q = wX d 33 [.ref 11, .int xs1, .int xs2] (mkH E ro) (fun v h' => wG d 32 (33, [.ref 11, .int x1, .int x2], pv v [], h') Q) := by
  exact r_inv (m := 33) (c := 2) rfl rfl rfl rfl rfl rfl rfl rfl

theorem sg_X2_guessAt_33 {d : Nat} {E : pEv} {ro : Nat → Nat → Int32} {Q : Option Value → pH → Prop} (s_E : oE E) {x1 : Int32} {x2 : Int32} {xs0 : Int32} : wG d 32 (33, [.ref 11, .int x1, .int x2], [.int xs0], mkH E ro) Q = Q (some (.int xs0)) (mkH E ro) := by
  exact r_iret rfl rfl

theorem en_X2_guessOf {d : Nat} {E : pEv} {ro : Nat → Nat → Int32} {Q : Option Value → pH → Prop} (s_E : oE E) {x1 : Int32} {x2 : Int32} : wX (d + 1) 33 [.ref 11, .int x1, .int x2] (mkH E ro) Q = wX d 20 [.ref 11, .int x1] (mkH E ro) (fun v h' => wG d 33 (5, [.ref 11, .int x1, .int x2, .retAddr 0], pv v [], h') Q) := by
  refine (wX_in rfl (by decide)).trans ?_
  show wG d 33 (0, [.ref 11, .int x1, .int x2, .retAddr 0], [], mkH E ro) Q = _
  refine (r_aload_n rfl rfl rfl).trans ?_
  refine (r_iload_n rfl rfl rfl).trans ?_
  exact r_inv (m := 20) (c := 2) rfl rfl rfl rfl rfl rfl rfl rfl

theorem sg_X2_guessOf_5 {d : Nat} {E : pEv} {ro : Nat → Nat → Int32} {Q : Option Value → pH → Prop} (s_E : oE E) {x1 : Int32} {x2 : Int32} {v3 : Value} {rs0 : Nat} (hs0 : oScene rs0) : wG d 33 (5, [.ref 11, .int x1, .int x2, v3], [.ref rs0], mkH E ro) Q = wX d 16 [.ref 22, .int x2, .int (ro rs0 4), .int (ro rs0 2)] (mkH E ro) (fun v h' => wG d 33 (22, [.ref 11, .int x1, .int x2, .ref rs0], pv v [], h') Q) := by
  refine (r_astore_n rfl rfl rfl rfl).trans ?_
  refine (r_aload_n rfl rfl rfl).trans ?_
  refine (r_getR (ci := 2) (sl := 2) s_E rfl rfl rfl rfl (by decide) rfl rfl).trans ?_
  refine (r_iload_n rfl rfl rfl).trans ?_
  refine (r_aload_n rfl rfl rfl).trans ?_
  refine (r_getI (ci := 5) (sl := 4) rfl rfl rfl hs0.2.1 hs0.1).trans ?_
  refine (r_aload_n rfl rfl rfl).trans ?_
  refine (r_getI (ci := 5) (sl := 2) rfl rfl rfl hs0.2.1 hs0.1).trans ?_
  exact r_inv (m := 16) (c := 1) rfl rfl rfl rfl rfl rfl rfl rfl

theorem sg_X2_guessOf_22 {d : Nat} {E : pEv} {ro : Nat → Nat → Int32} {Q : Option Value → pH → Prop} (s_E : oE E) {x1 : Int32} {x2 : Int32} {r3 : Nat} (h3 : oScene r3) {xs0 : Int32} : wG d 33 (22, [.ref 11, .int x1, .int x2, .ref r3], [.int xs0], mkH E ro) Q = (if 0 < x2 then wX d 78 [.ref r3] (mkH E ro) (fun v h' => wG d 33 (30, [.ref 11, .int x1, .int x2, .ref r3], pv v [.int xs0], h') Q) else Q (some (.int (xs0 + 0))) (mkH E ro)) := by
  refine (r_iload_n rfl rfl rfl).trans ?_
  refine (r_if_le rfl rfl rfl).trans ?_
  refine ite_congr rfl (fun h_0 => ?_) (fun h_0 => ?_)
  · refine (r_aload_n rfl rfl rfl).trans ?_
    exact r_inv (m := 78) (c := 5) rfl rfl rfl rfl rfl rfl h3.2.1 rfl
  · refine (r_iconst (v := 0) rfl rfl rfl).trans ?_
    refine (r_iadd rfl rfl).trans ?_
    exact r_iret rfl rfl

theorem sg_X2_guessOf_30 {d : Nat} {E : pEv} {ro : Nat → Nat → Int32} {Q : Option Value → pH → Prop} (s_E : oE E) {x1 : Int32} {x2 : Int32} {r3 : Nat} (h3 : oScene r3) {xs0 : Int32} {xs1 : Int32} : wG d 33 (30, [.ref 11, .int x1, .int x2, .ref r3], [.int xs1, .int xs0], mkH E ro) Q = Q (some (.int (xs0 + xs1))) (mkH E ro) := by
  refine (r_goto rfl rfl).trans ?_
  refine (r_iadd rfl rfl).trans ?_
  exact r_iret rfl rfl

theorem en_X2_guessed {d : Nat} {E : pEv} {ro : Nat → Nat → Int32} {Q : Option Value → pH → Prop} (s_E : oE E) : wX (d + 1) 34 [.ref 11] (mkH E ro) Q = wG d 34 (6, [.ref 11, .int 0, .int 0, .int 0, .retAddr 0], [], mkH E ro) Q := by
  refine (wX_in rfl (by decide)).trans ?_
  show wG d 34 (0, [.ref 11, .retAddr 0, .retAddr 0, .retAddr 0, .retAddr 0], [], mkH E ro) Q = _
  refine (r_iconst (v := 0) rfl rfl rfl).trans ?_
  refine (r_istore_n rfl rfl rfl rfl).trans ?_
  refine (r_iconst (v := 0) rfl rfl rfl).trans ?_
  refine (r_istore_n rfl rfl rfl rfl).trans ?_
  refine (r_iconst (v := 0) rfl rfl rfl).trans ?_
  refine (r_istore_n rfl rfl rfl rfl).trans ?_
  exact rfl

theorem sg_X2_guessed_6 {d : Nat} {E : pEv} {ro : Nat → Nat → Int32} {Q : Option Value → pH → Prop} (s_E : oE E) {x1 : Int32} {x2 : Int32} {x3 : Int32} {v4 : Value} : wG d 34 (6, [.ref 11, .int x1, .int x2, .int x3, v4], [], mkH E ro) Q = (if x3 < (ro 11 7) then wX d 57 [.ref 32, .int x3] (mkH E ro) (fun v h' => wG d 34 (22, [.ref 11, .int x1, .int x2, .int x3, v4], pv v [], h') Q) else Q (some (.int x1)) (mkH E ro)) := by
  refine (r_iload_n rfl rfl rfl).trans ?_
  refine (r_aload_n rfl rfl rfl).trans ?_
  refine (r_getI (ci := 2) (sl := 7) rfl rfl rfl rfl (by decide)).trans ?_
  refine (r_icmp_ge rfl rfl rfl).trans ?_
  refine ite_congr rfl (fun h_0 => ?_) (fun h_0 => ?_)
  · refine (r_aload_n rfl rfl rfl).trans ?_
    refine (r_getR (ci := 2) (sl := 4) s_E rfl rfl rfl rfl (by decide) rfl rfl).trans ?_
    refine (r_iload_n rfl rfl rfl).trans ?_
    exact r_inv (m := 57) (c := 4) rfl rfl rfl rfl rfl rfl rfl rfl
  · refine (r_iload_n rfl rfl rfl).trans ?_
    exact r_iret rfl rfl

theorem sg_X2_guessed_22 {d : Nat} {E : pEv} {ro : Nat → Nat → Int32} {Q : Option Value → pH → Prop} (s_E : oE E) {x1 : Int32} {x2 : Int32} {x3 : Int32} {v4 : Value} {xs0 : Int32} : wG d 34 (22, [.ref 11, .int x1, .int x2, .int x3, v4], [.int xs0], mkH E ro) Q = wX d 20 [.ref 11, .int xs0] (mkH E ro) (fun v h' => wG d 34 (34, [.ref 11, .int x1, .int x2, .int x3, .int xs0], pv v [.int xs0, .ref 11, .int x1], h') Q) := by
  refine (r_istore rfl rfl rfl rfl).trans ?_
  refine (r_iload_n rfl rfl rfl).trans ?_
  refine (r_aload_n rfl rfl rfl).trans ?_
  refine (r_iload rfl rfl rfl).trans ?_
  refine (r_aload_n rfl rfl rfl).trans ?_
  refine (r_iload rfl rfl rfl).trans ?_
  exact r_inv (m := 20) (c := 2) rfl rfl rfl rfl rfl rfl rfl rfl

theorem sg_X2_guessed_34 {d : Nat} {E : pEv} {ro : Nat → Nat → Int32} {Q : Option Value → pH → Prop} (s_E : oE E) {x1 : Int32} {x2 : Int32} {x3 : Int32} {x4 : Int32} {xs0 : Int32} {xs2 : Int32} {rs3 : Nat} (hs3 : oScene rs3) : wG d 34 (34, [.ref 11, .int x1, .int x2, .int x3, .int x4], [.ref rs3, .int xs2, .ref 11, .int xs0], mkH E ro) Q = wX d 255 [.int ((ro rs3 3) &&& (x2 ^^^ (-1)))] (mkH E ro) (fun v h' => wG d 34 (44, [.ref 11, .int x1, .int x2, .int x3, .int x4], pv v [.int xs2, .ref 11, .int xs0], h') Q) := by
  refine (r_getI (ci := 5) (sl := 3) rfl rfl rfl hs3.2.1 hs3.1).trans ?_
  refine (r_iload_n rfl rfl rfl).trans ?_
  refine (r_iconst (v := (-1)) rfl rfl rfl).trans ?_
  refine (r_ixor rfl rfl).trans ?_
  refine (r_iand rfl rfl).trans ?_
  exact r_ins (m := 255) rfl rfl rfl rfl rfl rfl

theorem sg_X2_guessed_44 {d : Nat} {E : pEv} {ro : Nat → Nat → Int32} {Q : Option Value → pH → Prop} (s_E : oE E) {x1 : Int32} {x2 : Int32} {x3 : Int32} {x4 : Int32} {xs0 : Int32} {xs2 : Int32} {xs3 : Int32} : wG d 34 (44, [.ref 11, .int x1, .int x2, .int x3, .int x4], [.int xs3, .int xs2, .ref 11, .int xs0], mkH E ro) Q = wX d 33 [.ref 11, .int xs2, .int xs3] (mkH E ro) (fun v h' => wG d 34 (47, [.ref 11, .int x1, .int x2, .int x3, .int x4], pv v [.int xs0], h') Q) := by
  exact r_inv (m := 33) (c := 2) rfl rfl rfl rfl rfl rfl rfl rfl

theorem sg_X2_guessed_47 {d : Nat} {E : pEv} {ro : Nat → Nat → Int32} {Q : Option Value → pH → Prop} (s_E : oE E) {x1 : Int32} {x2 : Int32} {x3 : Int32} {x4 : Int32} {xs0 : Int32} {xs1 : Int32} : wG d 34 (47, [.ref 11, .int x1, .int x2, .int x3, .int x4], [.int xs1, .int xs0], mkH E ro) Q = wG d 34 (6, [.ref 11, .int (xs0 + xs1), .int (x2 ||| ((1 : Int32) <<< (x4 &&& 31))), .int (x3 + 1), .int x4], [], mkH E ro) Q := by
  refine (r_iadd rfl rfl).trans ?_
  refine (r_istore_n rfl rfl rfl rfl).trans ?_
  refine (r_iload_n rfl rfl rfl).trans ?_
  refine (r_iconst (v := 1) rfl rfl rfl).trans ?_
  refine (r_iload rfl rfl rfl).trans ?_
  refine (r_ishl rfl rfl).trans ?_
  refine (r_ior rfl rfl).trans ?_
  refine (r_istore_n rfl rfl rfl rfl).trans ?_
  refine (r_iinc (y := 1) rfl rfl rfl rfl rfl rfl).trans ?_
  refine (r_goto rfl rfl).trans ?_
  exact rfl

theorem en_X2_firstWrongGuess {d : Nat} {E : pEv} {ro : Nat → Nat → Int32} {Q : Option Value → pH → Prop} (s_E : oE E) : wX (d + 1) 35 [.ref 11] (mkH E ro) Q = wG d 35 (2, [.ref 11, .int 0], [], mkH E ro) Q := by
  refine (wX_in rfl (by decide)).trans ?_
  show wG d 35 (0, [.ref 11, .retAddr 0], [], mkH E ro) Q = _
  refine (r_iconst (v := 0) rfl rfl rfl).trans ?_
  refine (r_istore_n rfl rfl rfl rfl).trans ?_
  exact rfl

theorem sg_X2_firstWrongGuess_2 {d : Nat} {E : pEv} {ro : Nat → Nat → Int32} {Q : Option Value → pH → Prop} (s_E : oE E) {x1 : Int32} : wG d 35 (2, [.ref 11, .int x1], [], mkH E ro) Q = (if x1 < (ro 36 1) then (if x1 < (ro 11 7) then wX d 57 [.ref 36, .int x1] (mkH E ro) (fun v h' => wG d 35 (29, [.ref 11, .int x1], pv v [], h') Q) else Q (some (.int x1)) (mkH E ro)) else Q (some (.int (-1))) (mkH E ro)) := by
  refine (r_iload_n rfl rfl rfl).trans ?_
  refine (r_aload_n rfl rfl rfl).trans ?_
  refine (r_getR (ci := 2) (sl := 6) s_E rfl rfl rfl rfl (by decide) rfl rfl).trans ?_
  refine (r_getI (ci := 4) (sl := 1) rfl rfl rfl rfl (by decide)).trans ?_
  refine (r_icmp_ge rfl rfl rfl).trans ?_
  refine ite_congr rfl (fun h_0 => ?_) (fun h_0 => ?_)
  · refine (r_iload_n rfl rfl rfl).trans ?_
    refine (r_aload_n rfl rfl rfl).trans ?_
    refine (r_getI (ci := 2) (sl := 7) rfl rfl rfl rfl (by decide)).trans ?_
    refine (r_icmp_ge rfl rfl rfl).trans ?_
    refine ite_congr rfl (fun h_1 => ?_) (fun h_1 => ?_)
    · refine (r_aload_n rfl rfl rfl).trans ?_
      refine (r_getR (ci := 2) (sl := 6) s_E rfl rfl rfl rfl (by decide) rfl rfl).trans ?_
      refine (r_iload_n rfl rfl rfl).trans ?_
      exact r_inv (m := 57) (c := 4) rfl rfl rfl rfl rfl rfl rfl rfl
    · refine (r_iload_n rfl rfl rfl).trans ?_
      exact r_iret rfl rfl
  · refine (r_iconst (v := (-1)) rfl rfl rfl).trans ?_
    exact r_iret rfl rfl

theorem sg_X2_firstWrongGuess_29 {d : Nat} {E : pEv} {ro : Nat → Nat → Int32} {Q : Option Value → pH → Prop} (s_E : oE E) {x1 : Int32} {xs0 : Int32} : wG d 35 (29, [.ref 11, .int x1], [.int xs0], mkH E ro) Q = wX d 32 [.ref 11, .int x1] (mkH E ro) (fun v h' => wG d 35 (34, [.ref 11, .int x1], pv v [.int xs0], h') Q) := by
  refine (r_aload_n rfl rfl rfl).trans ?_
  refine (r_iload_n rfl rfl rfl).trans ?_
  exact r_inv (m := 32) (c := 2) rfl rfl rfl rfl rfl rfl rfl rfl

theorem sg_X2_firstWrongGuess_34 {d : Nat} {E : pEv} {ro : Nat → Nat → Int32} {Q : Option Value → pH → Prop} (s_E : oE E) {x1 : Int32} {xs0 : Int32} {xs1 : Int32} : wG d 35 (34, [.ref 11, .int x1], [.int xs1, .int xs0], mkH E ro) Q = (if xs0 = xs1 then wG d 35 (2, [.ref 11, .int (x1 + 1)], [], mkH E ro) Q else Q (some (.int x1)) (mkH E ro)) := by
  refine (r_icmp_eq rfl rfl rfl).trans ?_
  refine ite_congr rfl (fun h_0 => ?_) (fun h_0 => ?_)
  · refine (r_iinc (y := 1) rfl rfl rfl rfl rfl rfl).trans ?_
    refine (r_goto rfl rfl).trans ?_
    exact rfl
  · refine (r_iload_n rfl rfl rfl).trans ?_
    exact r_iret rfl rfl

theorem en_X2_understoodBy {d : Nat} {E : pEv} {ro : Nat → Nat → Int32} {Q : Option Value → pH → Prop} (s_E : oE E) {x1 : Int32} : wX (d + 1) 36 [.ref 11, .int x1] (mkH E ro) Q = wG d 36 (6, [.ref 11, .int x1, .int ((1 : Int32) <<< (x1 &&& 31)), .int x1, .retAddr 0], [], mkH E ro) Q := by
  refine (wX_in rfl (by decide)).trans ?_
  show wG d 36 (0, [.ref 11, .int x1, .retAddr 0, .retAddr 0, .retAddr 0], [], mkH E ro) Q = _
  refine (r_iconst (v := 1) rfl rfl rfl).trans ?_
  refine (r_iload_n rfl rfl rfl).trans ?_
  refine (r_ishl rfl rfl).trans ?_
  refine (r_istore_n rfl rfl rfl rfl).trans ?_
  refine (r_iload_n rfl rfl rfl).trans ?_
  refine (r_istore_n rfl rfl rfl rfl).trans ?_
  exact rfl

theorem sg_X2_understoodBy_6 {d : Nat} {E : pEv} {ro : Nat → Nat → Int32} {Q : Option Value → pH → Prop} (s_E : oE E) {x1 : Int32} {x2 : Int32} {x3 : Int32} {v4 : Value} : wG d 36 (6, [.ref 11, .int x1, .int x2, .int x3, v4], [], mkH E ro) Q = (if x3 < 0 then wG d 36 (41, [.ref 11, .int x1, .int x2, .int 0, .int 0], [], mkH E ro) Q else (if ((x2 >>> (x3 &&& 31)) &&& 1) = 1 then wX d 20 [.ref 11, .int x3] (mkH E ro) (fun v h' => wG d 36 (25, [.ref 11, .int x1, .int x2, .int x3, v4], pv v [.int x2], h') Q) else wG d 36 (6, [.ref 11, .int x1, .int x2, .int (x3 + (-1)), v4], [], mkH E ro) Q)) := by
  refine (r_iload_n rfl rfl rfl).trans ?_
  refine (r_if_lt rfl rfl rfl).trans ?_
  refine ite_congr rfl (fun h_0 => ?_) (fun h_0 => ?_)
  · refine (r_iconst (v := 0) rfl rfl rfl).trans ?_
    refine (r_istore_n rfl rfl rfl rfl).trans ?_
    refine (r_iconst (v := 0) rfl rfl rfl).trans ?_
    refine (r_istore rfl rfl rfl rfl).trans ?_
    exact rfl
  · refine (r_iload_n rfl rfl rfl).trans ?_
    refine (r_iload_n rfl rfl rfl).trans ?_
    refine (r_ishr rfl rfl).trans ?_
    refine (r_iconst (v := 1) rfl rfl rfl).trans ?_
    refine (r_iand rfl rfl).trans ?_
    refine (r_iconst (v := 1) rfl rfl rfl).trans ?_
    refine (r_icmp_ne rfl rfl rfl).trans ?_
    refine ite_congr rfl (fun h_1 => ?_) (fun h_1 => ?_)
    · refine (r_iload_n rfl rfl rfl).trans ?_
      refine (r_aload_n rfl rfl rfl).trans ?_
      refine (r_iload_n rfl rfl rfl).trans ?_
      exact r_inv (m := 20) (c := 2) rfl rfl rfl rfl rfl rfl rfl rfl
    · refine (r_iinc (y := (-1)) rfl rfl rfl rfl rfl rfl).trans ?_
      refine (r_goto rfl rfl).trans ?_
      exact rfl

theorem sg_X2_understoodBy_25 {d : Nat} {E : pEv} {ro : Nat → Nat → Int32} {Q : Option Value → pH → Prop} (s_E : oE E) {x1 : Int32} {x2 : Int32} {x3 : Int32} {v4 : Value} {xs0 : Int32} {rs1 : Nat} (hs1 : oScene rs1) : wG d 36 (25, [.ref 11, .int x1, .int x2, .int x3, v4], [.ref rs1, .int xs0], mkH E ro) Q = wG d 36 (6, [.ref 11, .int x1, .int (xs0 ||| (ro rs1 3)), .int (x3 + (-1)), v4], [], mkH E ro) Q := by
  refine (r_getI (ci := 5) (sl := 3) rfl rfl rfl hs1.2.1 hs1.1).trans ?_
  refine (r_ior rfl rfl).trans ?_
  refine (r_istore_n rfl rfl rfl rfl).trans ?_
  refine (r_iinc (y := (-1)) rfl rfl rfl rfl rfl rfl).trans ?_
  refine (r_goto rfl rfl).trans ?_
  exact rfl

theorem sg_X2_understoodBy_41 {d : Nat} {E : pEv} {ro : Nat → Nat → Int32} {Q : Option Value → pH → Prop} (s_E : oE E) {x1 : Int32} {x2 : Int32} {x3 : Int32} {x4 : Int32} : wG d 36 (41, [.ref 11, .int x1, .int x2, .int x3, .int x4], [], mkH E ro) Q = (if x4 < (ro 11 7) then wX d 57 [.ref 32, .int x4] (mkH E ro) (fun v h' => wG d 36 (60, [.ref 11, .int x1, .int x2, .int x3, .int x4], pv v [.int x2], h') Q) else Q (some (.int x3)) (mkH E ro)) := by
  refine (r_iload rfl rfl rfl).trans ?_
  refine (r_aload_n rfl rfl rfl).trans ?_
  refine (r_getI (ci := 2) (sl := 7) rfl rfl rfl rfl (by decide)).trans ?_
  refine (r_icmp_ge rfl rfl rfl).trans ?_
  refine ite_congr rfl (fun h_0 => ?_) (fun h_0 => ?_)
  · refine (r_iload_n rfl rfl rfl).trans ?_
    refine (r_aload_n rfl rfl rfl).trans ?_
    refine (r_getR (ci := 2) (sl := 4) s_E rfl rfl rfl rfl (by decide) rfl rfl).trans ?_
    refine (r_iload rfl rfl rfl).trans ?_
    exact r_inv (m := 57) (c := 4) rfl rfl rfl rfl rfl rfl rfl rfl
  · refine (r_iload_n rfl rfl rfl).trans ?_
    exact r_iret rfl rfl

theorem sg_X2_understoodBy_60 {d : Nat} {E : pEv} {ro : Nat → Nat → Int32} {Q : Option Value → pH → Prop} (s_E : oE E) {x1 : Int32} {x2 : Int32} {x3 : Int32} {x4 : Int32} {xs0 : Int32} {xs1 : Int32} : wG d 36 (60, [.ref 11, .int x1, .int x2, .int x3, .int x4], [.int xs1, .int xs0], mkH E ro) Q = (if ((xs0 >>> (xs1 &&& 31)) &&& 1) = 1 then wG d 36 (41, [.ref 11, .int x1, .int x2, .int x4, .int (x4 + 1)], [], mkH E ro) Q else wG d 36 (41, [.ref 11, .int x1, .int x2, .int x3, .int (x4 + 1)], [], mkH E ro) Q) := by
  refine (r_ishr rfl rfl).trans ?_
  refine (r_iconst (v := 1) rfl rfl rfl).trans ?_
  refine (r_iand rfl rfl).trans ?_
  refine (r_iconst (v := 1) rfl rfl rfl).trans ?_
  refine (r_icmp_ne rfl rfl rfl).trans ?_
  refine ite_congr rfl (fun h_0 => ?_) (fun h_0 => ?_)
  · refine (r_iload rfl rfl rfl).trans ?_
    refine (r_istore_n rfl rfl rfl rfl).trans ?_
    refine (r_iinc (y := 1) rfl rfl rfl rfl rfl rfl).trans ?_
    refine (r_goto rfl rfl).trans ?_
    exact rfl
  · refine (r_iinc (y := 1) rfl rfl rfl rfl rfl rfl).trans ?_
    refine (r_goto rfl rfl).trans ?_
    exact rfl

theorem en_X2_hands {d : Nat} {E : pEv} {ro : Nat → Nat → Int32} {Q : Option Value → pH → Prop} (s_E : oE E) : wX (d + 1) 37 [.ref 11] (mkH E ro) Q = wX d 68 [.ref 20, .int (-1)] (mkH E ro) (fun v h' => wG d 37 (8, [.ref 11, .retAddr 0, .retAddr 0, .retAddr 0, .retAddr 0], pv v [], h') Q) := by
  refine (wX_in rfl (by decide)).trans ?_
  show wG d 37 (0, [.ref 11, .retAddr 0, .retAddr 0, .retAddr 0, .retAddr 0], [], mkH E ro) Q = _
  refine (r_aload_n rfl rfl rfl).trans ?_
  refine (r_getR (ci := 2) (sl := 1) s_E rfl rfl rfl rfl (by decide) rfl rfl).trans ?_
  refine (r_iconst (v := (-1)) rfl rfl rfl).trans ?_
  exact r_inv (m := 68) (c := 4) rfl rfl rfl rfl rfl rfl rfl rfl

theorem sg_X2_hands_8 {d : Nat} {E : pEv} {ro : Nat → Nat → Int32} {Q : Option Value → pH → Prop} (s_E : oE E) {v1 : Value} {v2 : Value} {v3 : Value} {v4 : Value} : wG d 37 (8, [.ref 11, v1, v2, v3, v4], [], mkH E ro) Q = wG d 37 (12, [.ref 11, .int 0, .int 0, v3, v4], [], mkH E ro) Q := by
  refine (r_iconst (v := 0) rfl rfl rfl).trans ?_
  refine (r_istore_n rfl rfl rfl rfl).trans ?_
  refine (r_iconst (v := 0) rfl rfl rfl).trans ?_
  refine (r_istore_n rfl rfl rfl rfl).trans ?_
  exact rfl

theorem sg_X2_hands_12 {d : Nat} {E : pEv} {ro : Nat → Nat → Int32} {Q : Option Value → pH → Prop} (s_E : oE E) {x1 : Int32} {x2 : Int32} {v3 : Value} {v4 : Value} : wG d 37 (12, [.ref 11, .int x1, .int x2, v3, v4], [], mkH E ro) Q = (if x2 < (ro 11 7) then wX d 57 [.ref 32, .int x2] (mkH E ro) (fun v h' => wG d 37 (29, [.ref 11, .int x1, .int x2, v3, v4], pv v [.ref 11], h') Q) else Q (some (.int x1)) (mkH E ro)) := by
  refine (r_iload_n rfl rfl rfl).trans ?_
  refine (r_aload_n rfl rfl rfl).trans ?_
  refine (r_getI (ci := 2) (sl := 7) rfl rfl rfl rfl (by decide)).trans ?_
  refine (r_icmp_ge rfl rfl rfl).trans ?_
  refine ite_congr rfl (fun h_0 => ?_) (fun h_0 => ?_)
  · refine (r_aload_n rfl rfl rfl).trans ?_
    refine (r_aload_n rfl rfl rfl).trans ?_
    refine (r_getR (ci := 2) (sl := 4) s_E rfl rfl rfl rfl (by decide) rfl rfl).trans ?_
    refine (r_iload_n rfl rfl rfl).trans ?_
    exact r_inv (m := 57) (c := 4) rfl rfl rfl rfl rfl rfl rfl rfl
  · refine (r_iload_n rfl rfl rfl).trans ?_
    exact r_iret rfl rfl

theorem sg_X2_hands_29 {d : Nat} {E : pEv} {ro : Nat → Nat → Int32} {Q : Option Value → pH → Prop} (s_E : oE E) {x1 : Int32} {x2 : Int32} {v3 : Value} {v4 : Value} {xs1 : Int32} : wG d 37 (29, [.ref 11, .int x1, .int x2, v3, v4], [.int xs1, .ref 11], mkH E ro) Q = wX d 20 [.ref 11, .int xs1] (mkH E ro) (fun v h' => wG d 37 (32, [.ref 11, .int x1, .int x2, v3, v4], pv v [], h') Q) := by
  exact r_inv (m := 20) (c := 2) rfl rfl rfl rfl rfl rfl rfl rfl

theorem sg_X2_hands_32 {d : Nat} {E : pEv} {ro : Nat → Nat → Int32} {Q : Option Value → pH → Prop} (s_E : oE E) {x1 : Int32} {x2 : Int32} {v3 : Value} {v4 : Value} {rs0 : Nat} (hs0 : oScene rs0) : wG d 37 (32, [.ref 11, .int x1, .int x2, v3, v4], [.ref rs0], mkH E ro) Q = (if (ro rs0 6) = 4 then wG d 37 (12, [.ref 11, .int x1, .int (x2 + 1), .ref rs0, v4], [], mkH E ro) Q else wX d 57 [.ref 20, .int (ro rs0 6)] (mkH E ro) (fun v h' => wG d 37 (52, [.ref 11, .int x1, .int x2, .ref rs0, v4], pv v [], h') Q)) := by
  refine (r_astore_n rfl rfl rfl rfl).trans ?_
  refine (r_aload_n rfl rfl rfl).trans ?_
  refine (r_getI (ci := 5) (sl := 6) rfl rfl rfl hs0.2.1 hs0.1).trans ?_
  refine (r_iconst (v := 4) rfl rfl rfl).trans ?_
  refine (r_icmp_eq rfl rfl rfl).trans ?_
  refine ite_congr rfl (fun h_0 => ?_) (fun h_0 => ?_)
  · refine (r_iinc (y := 1) rfl rfl rfl rfl rfl rfl).trans ?_
    refine (r_goto rfl rfl).trans ?_
    exact rfl
  · refine (r_aload_n rfl rfl rfl).trans ?_
    refine (r_getR (ci := 2) (sl := 1) s_E rfl rfl rfl rfl (by decide) rfl rfl).trans ?_
    refine (r_aload_n rfl rfl rfl).trans ?_
    refine (r_getI (ci := 5) (sl := 6) rfl rfl rfl hs0.2.1 hs0.1).trans ?_
    exact r_inv (m := 57) (c := 4) rfl rfl rfl rfl rfl rfl rfl rfl

theorem sg_X2_hands_52 {d : Nat} {E : pEv} {ro : Nat → Nat → Int32} {Q : Option Value → pH → Prop} (s_E : oE E) {x1 : Int32} {x2 : Int32} {r3 : Nat} (h3 : oScene r3) {v4 : Value} {xs0 : Int32} : wG d 37 (52, [.ref 11, .int x1, .int x2, .ref r3, v4], [.int xs0], mkH E ro) Q = (if xs0 < 0 then wX d 148 [.int 0] (mkH E ro) (fun v h' => wG d 37 (81, [.ref 11, .int x1, .int x2, .ref r3, .int xs0], pv v [.int x1], h') Q) else wX d 80 [.ref r3, .int (ro 11 8)] (mkH E ro) (fun v h' => wG d 37 (70, [.ref 11, .int x1, .int x2, .ref r3, .int xs0], pv v [.int xs0, .int x1], h') Q)) := by
  refine (r_istore rfl rfl rfl rfl).trans ?_
  refine (r_iload_n rfl rfl rfl).trans ?_
  refine (r_iload rfl rfl rfl).trans ?_
  refine (r_if_lt rfl rfl rfl).trans ?_
  refine ite_congr rfl (fun h_0 => ?_) (fun h_0 => ?_)
  · refine (r_iconst (v := 0) rfl rfl rfl).trans ?_
    exact r_ins (m := 148) rfl rfl rfl rfl rfl rfl
  · refine (r_iload rfl rfl rfl).trans ?_
    refine (r_aload_n rfl rfl rfl).trans ?_
    refine (r_aload_n rfl rfl rfl).trans ?_
    refine (r_getI (ci := 2) (sl := 8) rfl rfl rfl rfl (by decide)).trans ?_
    exact r_inv (m := 80) (c := 5) rfl rfl rfl rfl rfl rfl h3.2.1 rfl

theorem sg_X2_hands_70 {d : Nat} {E : pEv} {ro : Nat → Nat → Int32} {Q : Option Value → pH → Prop} (s_E : oE E) {x1 : Int32} {x2 : Int32} {r3 : Nat} (h3 : oScene r3) {x4 : Int32} {xs0 : Int32} {xs1 : Int32} {xs2 : Int32} : wG d 37 (70, [.ref 11, .int x1, .int x2, .ref r3, .int x4], [.int xs2, .int xs1, .int xs0], mkH E ro) Q = (if xs1 = xs2 then wX d 148 [.int 0] (mkH E ro) (fun v h' => wG d 37 (81, [.ref 11, .int x1, .int x2, .ref r3, .int x4], pv v [.int xs0], h') Q) else wX d 148 [.int 1] (mkH E ro) (fun v h' => wG d 37 (81, [.ref 11, .int x1, .int x2, .ref r3, .int x4], pv v [.int xs0], h') Q)) := by
  refine (r_icmp_eq rfl rfl rfl).trans ?_
  refine ite_congr rfl (fun h_0 => ?_) (fun h_0 => ?_)
  · refine (r_iconst (v := 0) rfl rfl rfl).trans ?_
    exact r_ins (m := 148) rfl rfl rfl rfl rfl rfl
  · refine (r_iconst (v := 1) rfl rfl rfl).trans ?_
    refine (r_goto rfl rfl).trans ?_
    exact r_ins (m := 148) rfl rfl rfl rfl rfl rfl

theorem sg_X2_hands_81 {d : Nat} {E : pEv} {ro : Nat → Nat → Int32} {Q : Option Value → pH → Prop} (s_E : oE E) {x1 : Int32} {x2 : Int32} {r3 : Nat} (h3 : oScene r3) {x4 : Int32} {xs0 : Int32} {xs1 : Int32} : wG d 37 (81, [.ref 11, .int x1, .int x2, .ref r3, .int x4], [.int xs1, .int xs0], mkH E ro) Q = wX d 81 [.ref r3, .int (ro 11 8)] (mkH E ro) (fun v h' => wG d 37 (99, [.ref 11, .int (xs0 + xs1), .int x2, .ref r3, .int x4], pv v [.int (ro r3 6), .ref 20], h') Q) := by
  refine (r_iadd rfl rfl).trans ?_
  refine (r_istore_n rfl rfl rfl rfl).trans ?_
  refine (r_aload_n rfl rfl rfl).trans ?_
  refine (r_getR (ci := 2) (sl := 1) s_E rfl rfl rfl rfl (by decide) rfl rfl).trans ?_
  refine (r_aload_n rfl rfl rfl).trans ?_
  refine (r_getI (ci := 5) (sl := 6) rfl rfl rfl h3.2.1 h3.1).trans ?_
  refine (r_aload_n rfl rfl rfl).trans ?_
  refine (r_aload_n rfl rfl rfl).trans ?_
  refine (r_getI (ci := 2) (sl := 8) rfl rfl rfl rfl (by decide)).trans ?_
  exact r_inv (m := 81) (c := 5) rfl rfl rfl rfl rfl rfl h3.2.1 rfl

theorem sg_X2_hands_99 {d : Nat} {E : pEv} {ro : Nat → Nat → Int32} {Q : Option Value → pH → Prop} (s_E : oE E) {x1 : Int32} {x2 : Int32} {r3 : Nat} (h3 : oScene r3) {x4 : Int32} {xs1 : Int32} {xs2 : Int32} : wG d 37 (99, [.ref 11, .int x1, .int x2, .ref r3, .int x4], [.int xs2, .int xs1, .ref 20], mkH E ro) Q = wX d 58 [.ref 20, .int xs1, .int xs2] (mkH E ro) (fun v h' => wG d 37 (102, [.ref 11, .int x1, .int x2, .ref r3, .int x4], pv v [], h') Q) := by
  exact r_inv (m := 58) (c := 4) rfl rfl rfl rfl rfl rfl rfl rfl

theorem sg_X2_hands_102 {d : Nat} {E : pEv} {ro : Nat → Nat → Int32} {Q : Option Value → pH → Prop} (s_E : oE E) {x1 : Int32} {x2 : Int32} {r3 : Nat} (h3 : oScene r3) {v4 : Value} : wG d 37 (102, [.ref 11, .int x1, .int x2, .ref r3, v4], [], mkH E ro) Q = wG d 37 (12, [.ref 11, .int x1, .int (x2 + 1), .ref r3, v4], [], mkH E ro) Q := by
  refine (r_iinc (y := 1) rfl rfl rfl rfl rfl rfl).trans ?_
  refine (r_goto rfl rfl).trans ?_
  exact rfl

theorem en_X2_rises {d : Nat} {E : pEv} {ro : Nat → Nat → Int32} {Q : Option Value → pH → Prop} (s_E : oE E) : wX (d + 1) 38 [.ref 11] (mkH E ro) Q = wX d 26 [.ref 11] (mkH E ro) (fun v h' => wG d 38 (4, [.ref 11, .retAddr 0, .retAddr 0, .retAddr 0, .retAddr 0, .retAddr 0], pv v [], h') Q) := by
  refine (wX_in rfl (by decide)).trans ?_
  show wG d 38 (0, [.ref 11, .retAddr 0, .retAddr 0, .retAddr 0, .retAddr 0, .retAddr 0], [], mkH E ro) Q = _
  refine (r_aload_n rfl rfl rfl).trans ?_
  exact r_inv (m := 26) (c := 2) rfl rfl rfl rfl rfl rfl rfl rfl

theorem sg_X2_rises_4 {d : Nat} {E : pEv} {ro : Nat → Nat → Int32} {Q : Option Value → pH → Prop} (s_E : oE E) {v1 : Value} {v2 : Value} {v3 : Value} {v4 : Value} {v5 : Value} {xs0 : Int32} : wG d 38 (4, [.ref 11, v1, v2, v3, v4, v5], [.int xs0], mkH E ro) Q = wG d 38 (12, [.ref 11, .int xs0, .int 0, .int 0, .int 0, v5], [], mkH E ro) Q := by
  refine (r_istore_n rfl rfl rfl rfl).trans ?_
  refine (r_iconst (v := 0) rfl rfl rfl).trans ?_
  refine (r_istore_n rfl rfl rfl rfl).trans ?_
  refine (r_iconst (v := 0) rfl rfl rfl).trans ?_
  refine (r_istore_n rfl rfl rfl rfl).trans ?_
  refine (r_iconst (v := 0) rfl rfl rfl).trans ?_
  refine (r_istore rfl rfl rfl rfl).trans ?_
  exact rfl

theorem sg_X2_rises_12 {d : Nat} {E : pEv} {ro : Nat → Nat → Int32} {Q : Option Value → pH → Prop} (s_E : oE E) {x1 : Int32} {x2 : Int32} {x3 : Int32} {x4 : Int32} {v5 : Value} : wG d 38 (12, [.ref 11, .int x1, .int x2, .int x3, .int x4, v5], [], mkH E ro) Q = (if x4 < (ro 11 7) then wX d 57 [.ref 32, .int x4] (mkH E ro) (fun v h' => wG d 38 (30, [.ref 11, .int x1, .int x2, .int x3, .int x4, v5], pv v [], h') Q) else Q (some (.int x2)) (mkH E ro)) := by
  refine (r_iload rfl rfl rfl).trans ?_
  refine (r_aload_n rfl rfl rfl).trans ?_
  refine (r_getI (ci := 2) (sl := 7) rfl rfl rfl rfl (by decide)).trans ?_
  refine (r_icmp_ge rfl rfl rfl).trans ?_
  refine ite_congr rfl (fun h_0 => ?_) (fun h_0 => ?_)
  · refine (r_aload_n rfl rfl rfl).trans ?_
    refine (r_getR (ci := 2) (sl := 4) s_E rfl rfl rfl rfl (by decide) rfl rfl).trans ?_
    refine (r_iload rfl rfl rfl).trans ?_
    exact r_inv (m := 57) (c := 4) rfl rfl rfl rfl rfl rfl rfl rfl
  · refine (r_iload_n rfl rfl rfl).trans ?_
    exact r_iret rfl rfl

theorem sg_X2_rises_30 {d : Nat} {E : pEv} {ro : Nat → Nat → Int32} {Q : Option Value → pH → Prop} (s_E : oE E) {x1 : Int32} {x2 : Int32} {x3 : Int32} {x4 : Int32} {v5 : Value} {xs0 : Int32} : wG d 38 (30, [.ref 11, .int x1, .int x2, .int x3, .int x4, v5], [.int xs0], mkH E ro) Q = wX d 20 [.ref 11, .int xs0] (mkH E ro) (fun v h' => wG d 38 (39, [.ref 11, .int x1, .int x2, .int x3, .int x4, .int xs0], pv v [.int x2], h') Q) := by
  refine (r_istore rfl rfl rfl rfl).trans ?_
  refine (r_iload_n rfl rfl rfl).trans ?_
  refine (r_aload_n rfl rfl rfl).trans ?_
  refine (r_iload rfl rfl rfl).trans ?_
  exact r_inv (m := 20) (c := 2) rfl rfl rfl rfl rfl rfl rfl rfl

theorem sg_X2_rises_39 {d : Nat} {E : pEv} {ro : Nat → Nat → Int32} {Q : Option Value → pH → Prop} (s_E : oE E) {x1 : Int32} {x2 : Int32} {x3 : Int32} {x4 : Int32} {x5 : Int32} {xs0 : Int32} {rs1 : Nat} (hs1 : oScene rs1) : wG d 38 (39, [.ref 11, .int x1, .int x2, .int x3, .int x4, .int x5], [.ref rs1, .int xs0], mkH E ro) Q = wX d 255 [.int ((ro rs1 5) &&& x3)] (mkH E ro) (fun v h' => wG d 38 (47, [.ref 11, .int x1, .int x2, .int x3, .int x4, .int x5], pv v [.int xs0], h') Q) := by
  refine (r_getI (ci := 5) (sl := 5) rfl rfl rfl hs1.2.1 hs1.1).trans ?_
  refine (r_iload_n rfl rfl rfl).trans ?_
  refine (r_iand rfl rfl).trans ?_
  exact r_ins (m := 255) rfl rfl rfl rfl rfl rfl

theorem sg_X2_rises_47 {d : Nat} {E : pEv} {ro : Nat → Nat → Int32} {Q : Option Value → pH → Prop} (s_E : oE E) {x1 : Int32} {x2 : Int32} {x3 : Int32} {x4 : Int32} {x5 : Int32} {xs0 : Int32} {xs1 : Int32} : wG d 38 (47, [.ref 11, .int x1, .int x2, .int x3, .int x4, .int x5], [.int xs1, .int xs0], mkH E ro) Q = wX d 28 [.ref 11, .int x5, .int x1] (mkH E ro) (fun v h' => wG d 38 (57, [.ref 11, .int x1, .int (xs0 + xs1), .int x3, .int x4, .int x5], pv v [.int x3], h') Q) := by
  refine (r_iadd rfl rfl).trans ?_
  refine (r_istore_n rfl rfl rfl rfl).trans ?_
  refine (r_iload_n rfl rfl rfl).trans ?_
  refine (r_aload_n rfl rfl rfl).trans ?_
  refine (r_iload rfl rfl rfl).trans ?_
  refine (r_iload_n rfl rfl rfl).trans ?_
  exact r_inv (m := 28) (c := 2) rfl rfl rfl rfl rfl rfl rfl rfl

theorem sg_X2_rises_57 {d : Nat} {E : pEv} {ro : Nat → Nat → Int32} {Q : Option Value → pH → Prop} (s_E : oE E) {x1 : Int32} {x2 : Int32} {x3 : Int32} {x4 : Int32} {x5 : Int32} {xs0 : Int32} {xs1 : Int32} : wG d 38 (57, [.ref 11, .int x1, .int x2, .int x3, .int x4, .int x5], [.int xs1, .int xs0], mkH E ro) Q = wG d 38 (12, [.ref 11, .int x1, .int x2, .int (xs0 ||| xs1), .int (x4 + 1), .int x5], [], mkH E ro) Q := by
  refine (r_ior rfl rfl).trans ?_
  refine (r_istore_n rfl rfl rfl rfl).trans ?_
  refine (r_iinc (y := 1) rfl rfl rfl rfl rfl rfl).trans ?_
  refine (r_goto rfl rfl).trans ?_
  exact rfl

theorem en_X2_minutes {d : Nat} {E : pEv} {ro : Nat → Nat → Int32} {Q : Option Value → pH → Prop} (s_E : oE E) : wX (d + 1) 39 [.ref 11] (mkH E ro) Q = wG d 39 (4, [.ref 11, .int 0, .int 0], [], mkH E ro) Q := by
  refine (wX_in rfl (by decide)).trans ?_
  show wG d 39 (0, [.ref 11, .retAddr 0, .retAddr 0], [], mkH E ro) Q = _
  refine (r_iconst (v := 0) rfl rfl rfl).trans ?_
  refine (r_istore_n rfl rfl rfl rfl).trans ?_
  refine (r_iconst (v := 0) rfl rfl rfl).trans ?_
  refine (r_istore_n rfl rfl rfl rfl).trans ?_
  exact rfl

theorem sg_X2_minutes_4 {d : Nat} {E : pEv} {ro : Nat → Nat → Int32} {Q : Option Value → pH → Prop} (s_E : oE E) {x1 : Int32} {x2 : Int32} : wG d 39 (4, [.ref 11, .int x1, .int x2], [], mkH E ro) Q = (if x2 < (ro 11 7) then wX d 20 [.ref 11, .int x2] (mkH E ro) (fun v h' => wG d 39 (18, [.ref 11, .int x1, .int x2], pv v [.int x1], h') Q) else Q (some (.int x1)) (mkH E ro)) := by
  refine (r_iload_n rfl rfl rfl).trans ?_
  refine (r_aload_n rfl rfl rfl).trans ?_
  refine (r_getI (ci := 2) (sl := 7) rfl rfl rfl rfl (by decide)).trans ?_
  refine (r_icmp_ge rfl rfl rfl).trans ?_
  refine ite_congr rfl (fun h_0 => ?_) (fun h_0 => ?_)
  · refine (r_iload_n rfl rfl rfl).trans ?_
    refine (r_aload_n rfl rfl rfl).trans ?_
    refine (r_iload_n rfl rfl rfl).trans ?_
    exact r_inv (m := 20) (c := 2) rfl rfl rfl rfl rfl rfl rfl rfl
  · refine (r_iload_n rfl rfl rfl).trans ?_
    exact r_iret rfl rfl

theorem sg_X2_minutes_18 {d : Nat} {E : pEv} {ro : Nat → Nat → Int32} {Q : Option Value → pH → Prop} (s_E : oE E) {x1 : Int32} {x2 : Int32} {xs0 : Int32} {rs1 : Nat} (hs1 : oScene rs1) : wG d 39 (18, [.ref 11, .int x1, .int x2], [.ref rs1, .int xs0], mkH E ro) Q = wG d 39 (4, [.ref 11, .int (xs0 + (ro rs1 4)), .int (x2 + 1)], [], mkH E ro) Q := by
  refine (r_getI (ci := 5) (sl := 4) rfl rfl rfl hs1.2.1 hs1.1).trans ?_
  refine (r_iadd rfl rfl).trans ?_
  refine (r_istore_n rfl rfl rfl rfl).trans ?_
  refine (r_iinc (y := 1) rfl rfl rfl rfl rfl rfl).trans ?_
  refine (r_goto rfl rfl).trans ?_
  exact rfl

theorem en_X2_isWholeOrder {d : Nat} {E : pEv} {ro : Nat → Nat → Int32} {Q : Option Value → pH → Prop} (s_E : oE E) {r1 c_h1 : Nat} (h1 : oRow r1 c_h1) : wX (d + 1) 40 [.ref 11, .ref r1] (mkH E ro) Q = wG d 40 (4, [.ref 11, .ref r1, .int 0, .int 0, .retAddr 0], [], mkH E ro) Q := by
  refine (wX_in rfl (by decide)).trans ?_
  show wG d 40 (0, [.ref 11, .ref r1, .retAddr 0, .retAddr 0, .retAddr 0], [], mkH E ro) Q = _
  refine (r_iconst (v := 0) rfl rfl rfl).trans ?_
  refine (r_istore_n rfl rfl rfl rfl).trans ?_
  refine (r_iconst (v := 0) rfl rfl rfl).trans ?_
  refine (r_istore_n rfl rfl rfl rfl).trans ?_
  exact rfl

theorem sg_X2_isWholeOrder_4 {d : Nat} {E : pEv} {ro : Nat → Nat → Int32} {Q : Option Value → pH → Prop} (s_E : oE E) {r1 c_h1 : Nat} (h1 : oRow r1 c_h1) {x2 : Int32} {x3 : Int32} {v4 : Value} : wG d 40 (4, [.ref 11, .ref r1, .int x2, .int x3, v4], [], mkH E ro) Q = (if x3 < (ro r1 1) then wX d 57 [.ref r1, .int x3] (mkH E ro) (fun v h' => wG d 40 (17, [.ref 11, .ref r1, .int x2, .int x3, v4], pv v [], h') Q) else (if (ro r1 1) = (ro 11 7) then wX d 22 [.ref 11] (mkH E ro) (fun v h' => wG d 40 (64, [.ref 11, .ref r1, .int x2, .int x3, v4], pv v [.int x2], h') Q) else Q (some (.int 0)) (mkH E ro))) := by
  refine (r_iload_n rfl rfl rfl).trans ?_
  refine (r_aload_n rfl rfl rfl).trans ?_
  refine (r_getI (ci := 4) (sl := 1) rfl rfl rfl h1.2.1 h1.1).trans ?_
  refine (r_icmp_ge rfl rfl rfl).trans ?_
  refine ite_congr rfl (fun h_0 => ?_) (fun h_0 => ?_)
  · refine (r_aload_n rfl rfl rfl).trans ?_
    refine (r_iload_n rfl rfl rfl).trans ?_
    exact r_inv (m := 57) (c := 4) rfl rfl rfl rfl rfl rfl h1.2.1 rfl
  · refine (r_aload_n rfl rfl rfl).trans ?_
    refine (r_getI (ci := 4) (sl := 1) rfl rfl rfl h1.2.1 h1.1).trans ?_
    refine (r_aload_n rfl rfl rfl).trans ?_
    refine (r_getI (ci := 2) (sl := 7) rfl rfl rfl rfl (by decide)).trans ?_
    refine (r_icmp_ne rfl rfl rfl).trans ?_
    refine ite_congr rfl (fun h_1 => ?_) (fun h_1 => ?_)
    · refine (r_iload_n rfl rfl rfl).trans ?_
      refine (r_aload_n rfl rfl rfl).trans ?_
      exact r_inv (m := 22) (c := 2) rfl rfl rfl rfl rfl rfl rfl rfl
    · refine (r_iconst (v := 0) rfl rfl rfl).trans ?_
      exact r_zret rfl rfl rfl

theorem sg_X2_isWholeOrder_17 {d : Nat} {E : pEv} {ro : Nat → Nat → Int32} {Q : Option Value → pH → Prop} (s_E : oE E) {r1 c_h1 : Nat} (h1 : oRow r1 c_h1) {x2 : Int32} {x3 : Int32} {v4 : Value} {xs0 : Int32} : wG d 40 (17, [.ref 11, .ref r1, .int x2, .int x3, v4], [.int xs0], mkH E ro) Q = (if xs0 < 0 then Q (some (.int 0)) (mkH E ro) else (if xs0 < (ro 11 7) then wG d 40 (4, [.ref 11, .ref r1, .int (x2 ||| ((1 : Int32) <<< (xs0 &&& 31))), .int (x3 + 1), .int xs0], [], mkH E ro) Q else Q (some (.int 0)) (mkH E ro))) := by
  refine (r_istore rfl rfl rfl rfl).trans ?_
  refine (r_iload rfl rfl rfl).trans ?_
  refine (r_if_lt rfl rfl rfl).trans ?_
  refine ite_congr rfl (fun h_0 => ?_) (fun h_0 => ?_)
  · refine (r_iconst (v := 0) rfl rfl rfl).trans ?_
    exact r_zret rfl rfl rfl
  · refine (r_iload rfl rfl rfl).trans ?_
    refine (r_aload_n rfl rfl rfl).trans ?_
    refine (r_getI (ci := 2) (sl := 7) rfl rfl rfl rfl (by decide)).trans ?_
    refine (r_icmp_lt rfl rfl rfl).trans ?_
    refine ite_congr rfl (fun h_1 => ?_) (fun h_1 => ?_)
    · refine (r_iload_n rfl rfl rfl).trans ?_
      refine (r_iconst (v := 1) rfl rfl rfl).trans ?_
      refine (r_iload rfl rfl rfl).trans ?_
      refine (r_ishl rfl rfl).trans ?_
      refine (r_ior rfl rfl).trans ?_
      refine (r_istore_n rfl rfl rfl rfl).trans ?_
      refine (r_iinc (y := 1) rfl rfl rfl rfl rfl rfl).trans ?_
      refine (r_goto rfl rfl).trans ?_
      exact rfl
    · refine (r_iconst (v := 0) rfl rfl rfl).trans ?_
      exact r_zret rfl rfl rfl

theorem sg_X2_isWholeOrder_64 {d : Nat} {E : pEv} {ro : Nat → Nat → Int32} {Q : Option Value → pH → Prop} (s_E : oE E) {r1 c_h1 : Nat} (h1 : oRow r1 c_h1) {x2 : Int32} {x3 : Int32} {v4 : Value} {xs0 : Int32} {xs1 : Int32} : wG d 40 (64, [.ref 11, .ref r1, .int x2, .int x3, v4], [.int xs1, .int xs0], mkH E ro) Q = (if xs0 = xs1 then Q (some (.int 1)) (mkH E ro) else Q (some (.int 0)) (mkH E ro)) := by
  refine (r_icmp_ne rfl rfl rfl).trans ?_
  refine ite_congr rfl (fun h_0 => ?_) (fun h_0 => ?_)
  · refine (r_iconst (v := 1) rfl rfl rfl).trans ?_
    refine (r_goto rfl rfl).trans ?_
    exact r_zret rfl rfl rfl
  · refine (r_iconst (v := 0) rfl rfl rfl).trans ?_
    exact r_zret rfl rfl rfl

theorem en_X2_clap {d : Nat} {E : pEv} {ro : Nat → Nat → Int32} {Q : Option Value → pH → Prop} (s_E : oE E) : wX (d + 1) 41 [.ref 11] (mkH E ro) Q = wX d 34 [.ref 11] (mkH E ro) (fun v h' => wG d 41 (8, [.ref 11], pv v [.ref 27], h') Q) := by
  refine (wX_in rfl (by decide)).trans ?_
  show wG d 41 (0, [.ref 11], [], mkH E ro) Q = _
  refine (r_aload_n rfl rfl rfl).trans ?_
  refine (r_getR (ci := 2) (sl := 3) s_E rfl rfl rfl rfl (by decide) rfl rfl).trans ?_
  refine (r_aload_n rfl rfl rfl).trans ?_
  exact r_inv (m := 34) (c := 2) rfl rfl rfl rfl rfl rfl rfl rfl

theorem sg_X2_clap_8 {d : Nat} {E : pEv} {ro : Nat → Nat → Int32} {Q : Option Value → pH → Prop} (s_E : oE E) {xs1 : Int32} : wG d 41 (8, [.ref 11], [.int xs1, .ref 27], mkH E ro) Q = wX d 37 [.ref 11] (mkH E ro) (fun v h' => wG d 41 (12, [.ref 11], pv v [.int xs1, .ref 27], h') Q) := by
  refine (r_aload_n rfl rfl rfl).trans ?_
  exact r_inv (m := 37) (c := 2) rfl rfl rfl rfl rfl rfl rfl rfl

theorem sg_X2_clap_12 {d : Nat} {E : pEv} {ro : Nat → Nat → Int32} {Q : Option Value → pH → Prop} (s_E : oE E) {xs1 : Int32} {xs2 : Int32} : wG d 41 (12, [.ref 11], [.int xs2, .int xs1, .ref 27], mkH E ro) Q = wX d 38 [.ref 11] (mkH E ro) (fun v h' => wG d 41 (16, [.ref 11], pv v [.int xs2, .int xs1, .ref 27], h') Q) := by
  refine (r_aload_n rfl rfl rfl).trans ?_
  exact r_inv (m := 38) (c := 2) rfl rfl rfl rfl rfl rfl rfl rfl

theorem sg_X2_clap_16 {d : Nat} {E : pEv} {ro : Nat → Nat → Int32} {Q : Option Value → pH → Prop} (s_E : oE E) {xs1 : Int32} {xs2 : Int32} {xs3 : Int32} : wG d 41 (16, [.ref 11], [.int xs3, .int xs2, .int xs1, .ref 27], mkH E ro) Q = wX d 16 [.ref 27, .int xs1, .int xs2, .int xs3] (mkH E ro) (fun v h' => wG d 41 (19, [.ref 11], pv v [], h') Q) := by
  exact r_inv (m := 16) (c := 1) rfl rfl rfl rfl rfl rfl rfl rfl

theorem sg_X2_clap_19 {d : Nat} {E : pEv} {ro : Nat → Nat → Int32} {Q : Option Value → pH → Prop} (s_E : oE E) {xs0 : Int32} : wG d 41 (19, [.ref 11], [.int xs0], mkH E ro) Q = Q (some (.int xs0)) (mkH E ro) := by
  exact r_iret rfl rfl

theorem en_X2_giveEvening {d : Nat} {E : pEv} {ro : Nat → Nat → Int32} {Q : Option Value → pH → Prop} (s_E : oE E) {x1 : Int32} : wX (d + 1) 42 [.ref 11, .int x1] (mkH E ro) Q = wX d 147 [.int ((ro 11 9) + x1), .int (-99999), .int 99999] (mkH E ro) (fun v h' => wG d 42 (14, [.ref 11, .int x1], pv v [.ref 11], h') Q) := by
  refine (wX_in rfl (by decide)).trans ?_
  show wG d 42 (0, [.ref 11, .int x1], [], mkH E ro) Q = _
  refine (r_aload_n rfl rfl rfl).trans ?_
  refine (r_aload_n rfl rfl rfl).trans ?_
  refine (r_getI (ci := 2) (sl := 9) rfl rfl rfl rfl (by decide)).trans ?_
  refine (r_iload_n rfl rfl rfl).trans ?_
  refine (r_iadd rfl rfl).trans ?_
  refine (r_ldc (v := (-99999)) rfl rfl rfl).trans ?_
  refine (r_ldc (v := 99999) rfl rfl rfl).trans ?_
  exact r_ins (m := 147) rfl rfl rfl rfl rfl rfl

theorem sg_X2_giveEvening_14 {d : Nat} {E : pEv} {ro : Nat → Nat → Int32} {Q : Option Value → pH → Prop} (s_E : oE E) {x1 : Int32} {xs1 : Int32} : wG d 42 (14, [.ref 11, .int x1], [.int xs1, .ref 11], mkH E ro) Q = Q none (mkH E (uI (uI ro 11 9 xs1) 11 10 (((uI ro 11 9 xs1) 11 10) + 1))) := by
  refine (r_putI (ci := 2) (sl := 9) rfl rfl rfl rfl (by decide)).trans ?_
  refine (r_aload_n rfl rfl rfl).trans ?_
  refine (r_dupR rfl rfl).trans ?_
  refine (r_getI (ci := 2) (sl := 10) rfl rfl rfl rfl (by decide)).trans ?_
  refine (r_iconst (v := 1) rfl rfl rfl).trans ?_
  refine (r_iadd rfl rfl).trans ?_
  refine (r_putI (ci := 2) (sl := 10) rfl rfl rfl rfl (by decide)).trans ?_
  exact r_vret rfl rfl

theorem en_X2_loosen {d : Nat} {E : pEv} {ro : Nat → Nat → Int32} {Q : Option Value → pH → Prop} (s_E : oE E) (b0 : (¬ ((ro 11 7) - 1) < 1) → (¬ ((ro 11 7) - 1) = 0)) : wX (d + 1) 43 [.ref 11] (mkH E ro) Q = (if ((ro 11 7) - 1) < 1 then Q none (mkH E ro) else wX d 64 [.ref 32, .int (((((uI ro 11 11 (((ro 11 11) * 1103515245) + 12345)) 11 11).toUInt32 >>> ((8 : Int32).toUInt32 &&& Int32.toUInt32 31)).toInt32) - ((((uI ro 11 11 (((ro 11 11) * 1103515245) + 12345)) 11 11).toUInt32 >>> ((8 : Int32).toUInt32 &&& Int32.toUInt32 31)).toInt32) / ((ro 11 7) - 1) * ((ro 11 7) - 1)), .int ((((((uI ro 11 11 (((ro 11 11) * 1103515245) + 12345)) 11 11).toUInt32 >>> ((8 : Int32).toUInt32 &&& Int32.toUInt32 31)).toInt32) - ((((uI ro 11 11 (((ro 11 11) * 1103515245) + 12345)) 11 11).toUInt32 >>> ((8 : Int32).toUInt32 &&& Int32.toUInt32 31)).toInt32) / ((ro 11 7) - 1) * ((ro 11 7) - 1)) + 1)] (mkH E (uI ro 11 11 (((ro 11 11) * 1103515245) + 12345))) (fun v h' => wG d 43 (49, [.ref 11, .int ((ro 11 7) - 1), .int (((((uI ro 11 11 (((ro 11 11) * 1103515245) + 12345)) 11 11).toUInt32 >>> ((8 : Int32).toUInt32 &&& Int32.toUInt32 31)).toInt32) - ((((uI ro 11 11 (((ro 11 11) * 1103515245) + 12345)) 11 11).toUInt32 >>> ((8 : Int32).toUInt32 &&& Int32.toUInt32 31)).toInt32) / ((ro 11 7) - 1) * ((ro 11 7) - 1))], pv v [], h') Q)) := by
  refine (wX_in rfl (by decide)).trans ?_
  show wG d 43 (0, [.ref 11, .retAddr 0, .retAddr 0], [], mkH E ro) Q = _
  refine (r_aload_n rfl rfl rfl).trans ?_
  refine (r_getI (ci := 2) (sl := 7) rfl rfl rfl rfl (by decide)).trans ?_
  refine (r_iconst (v := 1) rfl rfl rfl).trans ?_
  refine (r_isub rfl rfl).trans ?_
  refine (r_istore_n rfl rfl rfl rfl).trans ?_
  refine (r_iload_n rfl rfl rfl).trans ?_
  refine (r_iconst (v := 1) rfl rfl rfl).trans ?_
  refine (r_icmp_ge rfl rfl rfl).trans ?_
  refine ite_congr rfl (fun h_0 => ?_) (fun h_0 => ?_)
  · exact r_vret rfl rfl
  · refine (r_aload_n rfl rfl rfl).trans ?_
    refine (r_aload_n rfl rfl rfl).trans ?_
    refine (r_getI (ci := 2) (sl := 11) rfl rfl rfl rfl (by decide)).trans ?_
    refine (r_ldc (v := 1103515245) rfl rfl rfl).trans ?_
    refine (r_imul rfl rfl).trans ?_
    refine (r_sipush (v := 12345) rfl rfl rfl).trans ?_
    refine (r_iadd rfl rfl).trans ?_
    refine (r_putI (ci := 2) (sl := 11) rfl rfl rfl rfl (by decide)).trans ?_
    refine (r_aload_n rfl rfl rfl).trans ?_
    refine (r_getI (ci := 2) (sl := 11) rfl rfl rfl rfl (by decide)).trans ?_
    refine (r_bipush (v := 8) rfl rfl rfl).trans ?_
    refine (r_iushr rfl rfl).trans ?_
    refine (r_iload_n rfl rfl rfl).trans ?_
    refine (r_irem rfl rfl (b0 h_0)).trans ?_
    refine (r_istore_n rfl rfl rfl rfl).trans ?_
    refine (r_aload_n rfl rfl rfl).trans ?_
    refine (r_getR (ci := 2) (sl := 4) s_E rfl rfl rfl rfl (by decide) rfl rfl).trans ?_
    refine (r_iload_n rfl rfl rfl).trans ?_
    refine (r_iload_n rfl rfl rfl).trans ?_
    refine (r_iconst (v := 1) rfl rfl rfl).trans ?_
    refine (r_iadd rfl rfl).trans ?_
    exact r_inv (m := 64) (c := 4) rfl rfl rfl rfl rfl rfl rfl rfl

theorem sg_X2_loosen_49 {d : Nat} {E : pEv} {ro : Nat → Nat → Int32} {Q : Option Value → pH → Prop} (s_E : oE E) {x1 : Int32} {x2 : Int32} : wG d 43 (49, [.ref 11, .int x1, .int x2], [], mkH E ro) Q = Q none (mkH E ro) := by
  exact r_vret rfl rfl

theorem en_X2_copyFrom {d : Nat} {E : pEv} {ro : Nat → Nat → Int32} {Q : Option Value → pH → Prop} (s_E : oE E) {r0 : Nat} (h0 : oPlay r0) {r1 : Nat} (h1 : oPlay r1) : wX (d + 1) 44 [.ref r0, .ref r1] (mkH E ro) Q = wG d 44 (2, [.ref r0, .ref r1, .int 0], [], mkH E ro) Q := by
  refine (wX_in rfl (by decide)).trans ?_
  show wG d 44 (0, [.ref r0, .ref r1, .retAddr 0], [], mkH E ro) Q = _
  refine (r_iconst (v := 0) rfl rfl rfl).trans ?_
  refine (r_istore_n rfl rfl rfl rfl).trans ?_
  exact rfl

theorem sg_X2_copyFrom_2 {d : Nat} {E : pEv} {ro : Nat → Nat → Int32} {Q : Option Value → pH → Prop} (s_E : oE E) {r0 : Nat} (h0 : oPlay r0) {r1 : Nat} (h1 : oPlay r1) {x2 : Int32} : wG d 44 (2, [.ref r0, .ref r1, .int x2], [], mkH E ro) Q = (if x2 < 7 then wX d 20 [.ref r0, .int x2] (mkH E ro) (fun v h' => wG d 44 (16, [.ref r0, .ref r1, .int x2], pv v [], h') Q) else wX d 69 [.ref ((r0 + 11) + 3), .ref ((r1 + 11) + 3)] (mkH E ro) (fun v h' => wG d 44 (47, [.ref r0, .ref r1, .int x2], pv v [], h') Q)) := by
  refine (r_iload_n rfl rfl rfl).trans ?_
  refine (r_aload_n rfl rfl rfl).trans ?_
  refine (r_getR (ci := 2) (sl := 0) s_E rfl rfl rfl h0.2.1 h0.1 h0.2.2.1 (n81 h0.2.1 (by decide))).trans ?_
  refine (r_alen (v := 7) rfl rfl h0.2.2.2.2.2.2.2.2.2.1 (ne9 (Nat.le_succ_of_le h0.1)) (by decide) rfl).trans ?_
  refine (r_icmp_ge rfl rfl rfl).trans ?_
  refine ite_congr rfl (fun h_0 => ?_) (fun h_0 => ?_)
  · refine (r_aload_n rfl rfl rfl).trans ?_
    refine (r_iload_n rfl rfl rfl).trans ?_
    exact r_inv (m := 20) (c := 2) rfl rfl rfl rfl rfl rfl h0.2.1 rfl
  · refine (r_aload_n rfl rfl rfl).trans ?_
    refine (r_getR (ci := 2) (sl := 2) s_E rfl rfl rfl h0.2.1 h0.1 h0.2.2.2.2.1 (n81 h0.2.1 (by decide))).trans ?_
    refine (r_getR (ci := 1) (sl := 2) s_E rfl rfl rfl h0.2.2.2.2.2.2.2.2.2.2.2.2.2.2.2.1.2.1 h0.2.2.2.2.2.2.2.2.2.2.2.2.2.2.2.1.1 h0.2.2.2.2.2.2.2.2.2.2.2.2.2.2.2.1.2.2.2.1 (n81 h0.2.2.2.2.2.2.2.2.2.2.2.2.2.2.2.1.2.1 (by decide))).trans ?_
    refine (r_aload_n rfl rfl rfl).trans ?_
    refine (r_getR (ci := 2) (sl := 2) s_E rfl rfl rfl h1.2.1 h1.1 h1.2.2.2.2.1 (n81 h1.2.1 (by decide))).trans ?_
    refine (r_getR (ci := 1) (sl := 2) s_E rfl rfl rfl h1.2.2.2.2.2.2.2.2.2.2.2.2.2.2.2.1.2.1 h1.2.2.2.2.2.2.2.2.2.2.2.2.2.2.2.1.1 h1.2.2.2.2.2.2.2.2.2.2.2.2.2.2.2.1.2.2.2.1 (n81 h1.2.2.2.2.2.2.2.2.2.2.2.2.2.2.2.1.2.1 (by decide))).trans ?_
    exact r_inv (m := 69) (c := 4) rfl rfl rfl rfl rfl rfl h0.2.2.2.2.2.2.2.2.2.2.2.2.2.2.2.1.2.2.2.2.2.2.1 rfl

theorem sg_X2_copyFrom_16 {d : Nat} {E : pEv} {ro : Nat → Nat → Int32} {Q : Option Value → pH → Prop} (s_E : oE E) {r0 : Nat} (h0 : oPlay r0) {r1 : Nat} (h1 : oPlay r1) {x2 : Int32} {rs0 : Nat} (hs0 : oScene rs0) : wG d 44 (16, [.ref r0, .ref r1, .int x2], [.ref rs0], mkH E ro) Q = wX d 20 [.ref r1, .int x2] (mkH E ro) (fun v h' => wG d 44 (21, [.ref r0, .ref r1, .int x2], pv v [.ref rs0], h') Q) := by
  refine (r_aload_n rfl rfl rfl).trans ?_
  refine (r_iload_n rfl rfl rfl).trans ?_
  exact r_inv (m := 20) (c := 2) rfl rfl rfl rfl rfl rfl h1.2.1 rfl

theorem sg_X2_copyFrom_21 {d : Nat} {E : pEv} {ro : Nat → Nat → Int32} {Q : Option Value → pH → Prop} (s_E : oE E) {r0 : Nat} (h0 : oPlay r0) {r1 : Nat} (h1 : oPlay r1) {x2 : Int32} {rs0 : Nat} (hs0 : oScene rs0) {rs1 : Nat} (hs1 : oScene rs1) : wG d 44 (21, [.ref r0, .ref r1, .int x2], [.ref rs1, .ref rs0], mkH E ro) Q = wX d 82 [.ref rs0, .ref rs1] (mkH E ro) (fun v h' => wG d 44 (24, [.ref r0, .ref r1, .int x2], pv v [], h') Q) := by
  exact r_inv (m := 82) (c := 5) rfl rfl rfl rfl rfl rfl hs0.2.1 rfl

theorem sg_X2_copyFrom_24 {d : Nat} {E : pEv} {ro : Nat → Nat → Int32} {Q : Option Value → pH → Prop} (s_E : oE E) {r0 : Nat} (h0 : oPlay r0) {r1 : Nat} (h1 : oPlay r1) {x2 : Int32} : wG d 44 (24, [.ref r0, .ref r1, .int x2], [], mkH E ro) Q = wG d 44 (2, [.ref r0, .ref r1, .int (x2 + 1)], [], mkH E ro) Q := by
  refine (r_iinc (y := 1) rfl rfl rfl rfl rfl rfl).trans ?_
  refine (r_goto rfl rfl).trans ?_
  exact rfl

theorem sg_X2_copyFrom_47 {d : Nat} {E : pEv} {ro : Nat → Nat → Int32} {Q : Option Value → pH → Prop} (s_E : oE E) {r0 : Nat} (h0 : oPlay r0) {r1 : Nat} (h1 : oPlay r1) {x2 : Int32} : wG d 44 (47, [.ref r0, .ref r1, .int x2], [], mkH E ro) Q = wX d 69 [.ref ((r0 + 16) + 3), .ref ((r1 + 16) + 3)] (mkH E ro) (fun v h' => wG d 44 (64, [.ref r0, .ref r1, .int x2], pv v [], h') Q) := by
  refine (r_aload_n rfl rfl rfl).trans ?_
  refine (r_getR (ci := 2) (sl := 3) s_E rfl rfl rfl h0.2.1 h0.1 h0.2.2.2.2.2.1 (n81 h0.2.1 (by decide))).trans ?_
  refine (r_getR (ci := 1) (sl := 2) s_E rfl rfl rfl h0.2.2.2.2.2.2.2.2.2.2.2.2.2.2.2.2.2.1 h0.2.2.2.2.2.2.2.2.2.2.2.2.2.2.2.2.1 h0.2.2.2.2.2.2.2.2.2.2.2.2.2.2.2.2.2.2.2.1 (n81 h0.2.2.2.2.2.2.2.2.2.2.2.2.2.2.2.2.2.1 (by decide))).trans ?_
  refine (r_aload_n rfl rfl rfl).trans ?_
  refine (r_getR (ci := 2) (sl := 3) s_E rfl rfl rfl h1.2.1 h1.1 h1.2.2.2.2.2.1 (n81 h1.2.1 (by decide))).trans ?_
  refine (r_getR (ci := 1) (sl := 2) s_E rfl rfl rfl h1.2.2.2.2.2.2.2.2.2.2.2.2.2.2.2.2.2.1 h1.2.2.2.2.2.2.2.2.2.2.2.2.2.2.2.2.1 h1.2.2.2.2.2.2.2.2.2.2.2.2.2.2.2.2.2.2.2.1 (n81 h1.2.2.2.2.2.2.2.2.2.2.2.2.2.2.2.2.2.1 (by decide))).trans ?_
  exact r_inv (m := 69) (c := 4) rfl rfl rfl rfl rfl rfl h0.2.2.2.2.2.2.2.2.2.2.2.2.2.2.2.2.2.2.2.2.2.2.1 rfl

theorem sg_X2_copyFrom_64 {d : Nat} {E : pEv} {ro : Nat → Nat → Int32} {Q : Option Value → pH → Prop} (s_E : oE E) {r0 : Nat} (h0 : oPlay r0) {r1 : Nat} (h1 : oPlay r1) {x2 : Int32} : wG d 44 (64, [.ref r0, .ref r1, .int x2], [], mkH E ro) Q = wX d 69 [.ref (r0 + 21), .ref (r1 + 21)] (mkH E ro) (fun v h' => wG d 44 (75, [.ref r0, .ref r1, .int x2], pv v [], h') Q) := by
  refine (r_aload_n rfl rfl rfl).trans ?_
  refine (r_getR (ci := 2) (sl := 4) s_E rfl rfl rfl h0.2.1 h0.1 h0.2.2.2.2.2.2.1 (n81 h0.2.1 (by decide))).trans ?_
  refine (r_aload_n rfl rfl rfl).trans ?_
  refine (r_getR (ci := 2) (sl := 4) s_E rfl rfl rfl h1.2.1 h1.1 h1.2.2.2.2.2.2.1 (n81 h1.2.1 (by decide))).trans ?_
  exact r_inv (m := 69) (c := 4) rfl rfl rfl rfl rfl rfl h0.2.2.2.2.2.2.2.2.2.2.2.2.1.2.1 rfl

theorem sg_X2_copyFrom_75 {d : Nat} {E : pEv} {ro : Nat → Nat → Int32} {Q : Option Value → pH → Prop} (s_E : oE E) {r0 : Nat} (h0 : oPlay r0) {r1 : Nat} (h1 : oPlay r1) {x2 : Int32} : wG d 44 (75, [.ref r0, .ref r1, .int x2], [], mkH E ro) Q = wX d 69 [.ref (r0 + 23), .ref (r1 + 23)] (mkH E ro) (fun v h' => wG d 44 (86, [.ref r0, .ref r1, .int x2], pv v [], h') Q) := by
  refine (r_aload_n rfl rfl rfl).trans ?_
  refine (r_getR (ci := 2) (sl := 5) s_E rfl rfl rfl h0.2.1 h0.1 h0.2.2.2.2.2.2.2.1 (n81 h0.2.1 (by decide))).trans ?_
  refine (r_aload_n rfl rfl rfl).trans ?_
  refine (r_getR (ci := 2) (sl := 5) s_E rfl rfl rfl h1.2.1 h1.1 h1.2.2.2.2.2.2.2.1 (n81 h1.2.1 (by decide))).trans ?_
  exact r_inv (m := 69) (c := 4) rfl rfl rfl rfl rfl rfl h0.2.2.2.2.2.2.2.2.2.2.2.2.2.1.2.1 rfl

theorem sg_X2_copyFrom_86 {d : Nat} {E : pEv} {ro : Nat → Nat → Int32} {Q : Option Value → pH → Prop} (s_E : oE E) {r0 : Nat} (h0 : oPlay r0) {r1 : Nat} (h1 : oPlay r1) {x2 : Int32} : wG d 44 (86, [.ref r0, .ref r1, .int x2], [], mkH E ro) Q = wX d 69 [.ref (r0 + 25), .ref (r1 + 25)] (mkH E ro) (fun v h' => wG d 44 (97, [.ref r0, .ref r1, .int x2], pv v [], h') Q) := by
  refine (r_aload_n rfl rfl rfl).trans ?_
  refine (r_getR (ci := 2) (sl := 6) s_E rfl rfl rfl h0.2.1 h0.1 h0.2.2.2.2.2.2.2.2.1 (n81 h0.2.1 (by decide))).trans ?_
  refine (r_aload_n rfl rfl rfl).trans ?_
  refine (r_getR (ci := 2) (sl := 6) s_E rfl rfl rfl h1.2.1 h1.1 h1.2.2.2.2.2.2.2.2.1 (n81 h1.2.1 (by decide))).trans ?_
  exact r_inv (m := 69) (c := 4) rfl rfl rfl rfl rfl rfl h0.2.2.2.2.2.2.2.2.2.2.2.2.2.2.1.2.1 rfl

theorem sg_X2_copyFrom_97 {d : Nat} {E : pEv} {ro : Nat → Nat → Int32} {Q : Option Value → pH → Prop} (s_E : oE E) {r0 : Nat} (h0 : oPlay r0) {r1 : Nat} (h1 : oPlay r1) {x2 : Int32} : wG d 44 (97, [.ref r0, .ref r1, .int x2], [], mkH E ro) Q = Q none (mkH E (uI (uI (uI (uI (uI ro r0 7 (ro r1 7)) r0 8 ((uI ro r0 7 (ro r1 7)) r1 8)) r0 9 ((uI (uI ro r0 7 (ro r1 7)) r0 8 ((uI ro r0 7 (ro r1 7)) r1 8)) r1 9)) r0 10 ((uI (uI (uI ro r0 7 (ro r1 7)) r0 8 ((uI ro r0 7 (ro r1 7)) r1 8)) r0 9 ((uI (uI ro r0 7 (ro r1 7)) r0 8 ((uI ro r0 7 (ro r1 7)) r1 8)) r1 9)) r1 10)) r0 11 ((uI (uI (uI (uI ro r0 7 (ro r1 7)) r0 8 ((uI ro r0 7 (ro r1 7)) r1 8)) r0 9 ((uI (uI ro r0 7 (ro r1 7)) r0 8 ((uI ro r0 7 (ro r1 7)) r1 8)) r1 9)) r0 10 ((uI (uI (uI ro r0 7 (ro r1 7)) r0 8 ((uI ro r0 7 (ro r1 7)) r1 8)) r0 9 ((uI (uI ro r0 7 (ro r1 7)) r0 8 ((uI ro r0 7 (ro r1 7)) r1 8)) r1 9)) r1 10)) r1 11))) := by
  refine (r_aload_n rfl rfl rfl).trans ?_
  refine (r_aload_n rfl rfl rfl).trans ?_
  refine (r_getI (ci := 2) (sl := 7) rfl rfl rfl h1.2.1 h1.1).trans ?_
  refine (r_putI (ci := 2) (sl := 7) rfl rfl rfl h0.2.1 h0.1).trans ?_
  refine (r_aload_n rfl rfl rfl).trans ?_
  refine (r_aload_n rfl rfl rfl).trans ?_
  refine (r_getI (ci := 2) (sl := 8) rfl rfl rfl h1.2.1 h1.1).trans ?_
  refine (r_putI (ci := 2) (sl := 8) rfl rfl rfl h0.2.1 h0.1).trans ?_
  refine (r_aload_n rfl rfl rfl).trans ?_
  refine (r_aload_n rfl rfl rfl).trans ?_
  refine (r_getI (ci := 2) (sl := 9) rfl rfl rfl h1.2.1 h1.1).trans ?_
  refine (r_putI (ci := 2) (sl := 9) rfl rfl rfl h0.2.1 h0.1).trans ?_
  refine (r_aload_n rfl rfl rfl).trans ?_
  refine (r_aload_n rfl rfl rfl).trans ?_
  refine (r_getI (ci := 2) (sl := 10) rfl rfl rfl h1.2.1 h1.1).trans ?_
  refine (r_putI (ci := 2) (sl := 10) rfl rfl rfl h0.2.1 h0.1).trans ?_
  refine (r_aload_n rfl rfl rfl).trans ?_
  refine (r_aload_n rfl rfl rfl).trans ?_
  refine (r_getI (ci := 2) (sl := 11) rfl rfl rfl h1.2.1 h1.1).trans ?_
  refine (r_putI (ci := 2) (sl := 11) rfl rfl rfl h0.2.1 h0.1).trans ?_
  exact r_vret rfl rfl
