theorem en_X10_finds {d : Nat} {E : pEv} {ro : Nat → Nat → Int32} {Q : Option Value → pH → Prop} (s_E : oE E) {x1 : Int32} (b0 : (¬ x1 < 0 ∧ x1.toNatClampNeg < 6)) : wX (d + 1) 153 [.ref 101, .int x1] (mkH E ro) Q = Q (some (.int ((-1000000000) - x1))) (mkH E (uI ro 104 x1.toNatClampNeg ((ro 104 x1.toNatClampNeg) + 1))) := by
  refine (wX_in rfl (by decide)).trans ?_
  show wG d 153 (0, [.ref 101, .int x1], [], mkH E ro) Q = _
  refine (r_aload_n rfl rfl rfl).trans ?_
  refine (r_getR (ci := 10) (sl := 3) s_E rfl rfl rfl rfl (by decide) rfl rfl).trans ?_
  refine (r_iload_n rfl rfl rfl).trans ?_
  refine (r_dup2 rfl rfl).trans ?_
  refine (r_iald rfl rfl rfl (by decide) b0).trans ?_
  refine (r_iconst (v := 1) rfl rfl rfl).trans ?_
  refine (r_iadd rfl rfl).trans ?_
  refine (r_iast rfl rfl rfl (by decide) b0).trans ?_
  refine (r_ldc (v := (-1000000000)) rfl rfl rfl).trans ?_
  refine (r_iload_n rfl rfl rfl).trans ?_
  refine (r_isub rfl rfl).trans ?_
  exact r_iret rfl rfl

theorem en_X10_in {d : Nat} {E : pEv} {ro : Nat → Nat → Int32} {Q : Option Value → pH → Prop} (s_E : oE E) {w0 : Int64} {w2 : Int64} {w4 : Int64} : wX (d + 1) 154 [.long w0, .long w2, .long w4] (mkH E ro) Q = (if (lg_cmp w0 w2) < 0 then Q (some (.int 0)) (mkH E ro) else (if 0 < (lg_cmp w0 w4) then Q (some (.int 0)) (mkH E ro) else Q (some (.int 1)) (mkH E ro))) := by
  refine (wX_in rfl (by decide)).trans ?_
  show wG d 154 (0, [.long w0, .retAddr 0, .long w2, .retAddr 0, .long w4, .retAddr 0], [], mkH E ro) Q = _
  refine (r_lload_n rfl rfl rfl).trans ?_
  refine (r_lload_n rfl rfl rfl).trans ?_
  refine (r_lcmp rfl rfl).trans ?_
  refine (r_if_lt rfl rfl rfl).trans ?_
  refine ite_congr rfl (fun h_0 => ?_) (fun h_0 => ?_)
  · refine (r_iconst (v := 0) rfl rfl rfl).trans ?_
    exact r_zret rfl rfl rfl
  · refine (r_lload_n rfl rfl rfl).trans ?_
    refine (r_lload rfl rfl rfl).trans ?_
    refine (r_lcmp rfl rfl).trans ?_
    refine (r_if_gt rfl rfl rfl).trans ?_
    refine ite_congr rfl (fun h_1 => ?_) (fun h_1 => ?_)
    · refine (r_iconst (v := 0) rfl rfl rfl).trans ?_
      exact r_zret rfl rfl rfl
    · refine (r_iconst (v := 1) rfl rfl rfl).trans ?_
      refine (r_goto rfl rfl).trans ?_
      exact r_zret rfl rfl rfl

theorem en_X10_held {d : Nat} {E : pEv} {ro : Nat → Nat → Int32} {Q : Option Value → pH → Prop} (s_E : oE E) {x0 : Int32} {x1 : Int32} {x2 : Int32} : wX (d + 1) 155 [.int x0, .int x1, .int x2] (mkH E ro) Q = (if x0 < x1 then Q (some (.int x1)) (mkH E ro) else (if x2 < x0 then Q (some (.int x2)) (mkH E ro) else Q (some (.int x0)) (mkH E ro))) := by
  refine (wX_in rfl (by decide)).trans ?_
  show wG d 155 (0, [.int x0, .int x1, .int x2], [], mkH E ro) Q = _
  refine (r_iload_n rfl rfl rfl).trans ?_
  refine (r_iload_n rfl rfl rfl).trans ?_
  refine (r_icmp_ge rfl rfl rfl).trans ?_
  refine ite_congr rfl (fun h_0 => ?_) (fun h_0 => ?_)
  · refine (r_iload_n rfl rfl rfl).trans ?_
    refine (r_goto rfl rfl).trans ?_
    exact r_iret rfl rfl
  · refine (r_iload_n rfl rfl rfl).trans ?_
    refine (r_iload_n rfl rfl rfl).trans ?_
    refine (r_icmp_le rfl rfl rfl).trans ?_
    refine ite_congr rfl (fun h_1 => ?_) (fun h_1 => ?_)
    · refine (r_iload_n rfl rfl rfl).trans ?_
      refine (r_goto rfl rfl).trans ?_
      exact r_iret rfl rfl
    · refine (r_iload_n rfl rfl rfl).trans ?_
      exact r_iret rfl rfl

theorem en_X10_isScene {d : Nat} {E : pEv} {ro : Nat → Nat → Int32} {Q : Option Value → pH → Prop} (s_E : oE E) {x1 : Int32} : wX (d + 1) 156 [.ref 101, .int x1] (mkH E ro) Q = wX d 154 [.long x1.toInt64, .long 0, .long (((ro 102 0) - 1).toInt64)] (mkH E ro) (fun v h' => wG d 156 (15, [.ref 101, .int x1], pv v [], h') Q) := by
  refine (wX_in rfl (by decide)).trans ?_
  show wG d 156 (0, [.ref 101, .int x1], [], mkH E ro) Q = _
  refine (r_iload_n rfl rfl rfl).trans ?_
  refine (r_i2l rfl rfl).trans ?_
  refine (r_lconst (w := 0) rfl rfl rfl).trans ?_
  refine (r_aload_n rfl rfl rfl).trans ?_
  refine (r_getR (ci := 10) (sl := 0) s_E rfl rfl rfl rfl (by decide) rfl rfl).trans ?_
  refine (r_iconst (v := 0) rfl rfl rfl).trans ?_
  refine (r_iald rfl rfl rfl (by decide) (by decide)).trans ?_
  refine (r_iconst (v := 1) rfl rfl rfl).trans ?_
  refine (r_isub rfl rfl).trans ?_
  refine (r_i2l rfl rfl).trans ?_
  exact r_ins (m := 154) rfl rfl rfl rfl rfl rfl

theorem sg_X10_isScene_15 {d : Nat} {E : pEv} {ro : Nat → Nat → Int32} {Q : Option Value → pH → Prop} (s_E : oE E) {x1 : Int32} {xs0 : Int32} (b0 : (narrow .boolean (.int xs0) = .int xs0)) : wG d 156 (15, [.ref 101, .int x1], [.int xs0], mkH E ro) Q = Q (some (.int xs0)) (mkH E ro) := by
  exact r_zret rfl rfl b0

theorem en_X10_its {d : Nat} {E : pEv} {ro : Nat → Nat → Int32} {Q : Option Value → pH → Prop} (s_E : oE E) {x1 : Int32} {x2 : Int32} (b0 : (¬ ((10 + (10 * x1)) + x2) < 0 ∧ ((10 + (10 * x1)) + x2).toNatClampNeg < 264)) : wX (d + 1) 157 [.ref 101, .int x1, .int x2] (mkH E ro) Q = Q (some (.int (ro 102 ((10 + (10 * x1)) + x2).toNatClampNeg))) (mkH E ro) := by
  refine (wX_in rfl (by decide)).trans ?_
  show wG d 157 (0, [.ref 101, .int x1, .int x2], [], mkH E ro) Q = _
  refine (r_aload_n rfl rfl rfl).trans ?_
  refine (r_getR (ci := 10) (sl := 0) s_E rfl rfl rfl rfl (by decide) rfl rfl).trans ?_
  refine (r_bipush (v := 10) rfl rfl rfl).trans ?_
  refine (r_bipush (v := 10) rfl rfl rfl).trans ?_
  refine (r_iload_n rfl rfl rfl).trans ?_
  refine (r_imul rfl rfl).trans ?_
  refine (r_iadd rfl rfl).trans ?_
  refine (r_iload_n rfl rfl rfl).trans ?_
  refine (r_iadd rfl rfl).trans ?_
  refine (r_iald rfl rfl rfl (by decide) b0).trans ?_
  exact r_iret rfl rfl

theorem en_X10_puts {d : Nat} {E : pEv} {ro : Nat → Nat → Int32} {Q : Option Value → pH → Prop} (s_E : oE E) {x1 : Int32} {x2 : Int32} {x3 : Int32} (b0 : (¬ ((10 + (10 * x1)) + x2) < 0 ∧ ((10 + (10 * x1)) + x2).toNatClampNeg < 264)) : wX (d + 1) 158 [.ref 101, .int x1, .int x2, .int x3] (mkH E ro) Q = Q none (mkH E (uI ro 102 ((10 + (10 * x1)) + x2).toNatClampNeg x3)) := by
  refine (wX_in rfl (by decide)).trans ?_
  show wG d 158 (0, [.ref 101, .int x1, .int x2, .int x3], [], mkH E ro) Q = _
  refine (r_aload_n rfl rfl rfl).trans ?_
  refine (r_getR (ci := 10) (sl := 0) s_E rfl rfl rfl rfl (by decide) rfl rfl).trans ?_
  refine (r_bipush (v := 10) rfl rfl rfl).trans ?_
  refine (r_bipush (v := 10) rfl rfl rfl).trans ?_
  refine (r_iload_n rfl rfl rfl).trans ?_
  refine (r_imul rfl rfl).trans ?_
  refine (r_iadd rfl rfl).trans ?_
  refine (r_iload_n rfl rfl rfl).trans ?_
  refine (r_iadd rfl rfl).trans ?_
  refine (r_iload_n rfl rfl rfl).trans ?_
  refine (r_iast rfl rfl rfl (by decide) b0).trans ?_
  exact r_vret rfl rfl

theorem en_X10_ones {d : Nat} {E : pEv} {ro : Nat → Nat → Int32} {Q : Option Value → pH → Prop} (s_E : oE E) {x0 : Int32} : wX (d + 1) 159 [.int x0] (mkH E ro) Q = wG d 159 (4, [.int x0, .int 0, .int 0], [], mkH E ro) Q := by
  refine (wX_in rfl (by decide)).trans ?_
  show wG d 159 (0, [.int x0, .retAddr 0, .retAddr 0], [], mkH E ro) Q = _
  refine (r_iconst (v := 0) rfl rfl rfl).trans ?_
  refine (r_istore_n rfl rfl rfl rfl).trans ?_
  refine (r_iconst (v := 0) rfl rfl rfl).trans ?_
  refine (r_istore_n rfl rfl rfl rfl).trans ?_
  exact rfl

theorem sg_X10_ones_4 {d : Nat} {E : pEv} {ro : Nat → Nat → Int32} {Q : Option Value → pH → Prop} (s_E : oE E) {x0 : Int32} {x1 : Int32} {x2 : Int32} : wG d 159 (4, [.int x0, .int x1, .int x2], [], mkH E ro) Q = (if x2 < 7 then wG d 159 (4, [.int x0, .int (x1 + ((x0 >>> (x2 &&& 31)) &&& 1)), .int (x2 + 1)], [], mkH E ro) Q else Q (some (.int x1)) (mkH E ro)) := by
  refine (r_iload_n rfl rfl rfl).trans ?_
  refine (r_bipush (v := 7) rfl rfl rfl).trans ?_
  refine (r_icmp_ge rfl rfl rfl).trans ?_
  refine ite_congr rfl (fun h_0 => ?_) (fun h_0 => ?_)
  · refine (r_iload_n rfl rfl rfl).trans ?_
    refine (r_iload_n rfl rfl rfl).trans ?_
    refine (r_iload_n rfl rfl rfl).trans ?_
    refine (r_ishr rfl rfl).trans ?_
    refine (r_iconst (v := 1) rfl rfl rfl).trans ?_
    refine (r_iand rfl rfl).trans ?_
    refine (r_iadd rfl rfl).trans ?_
    refine (r_istore_n rfl rfl rfl rfl).trans ?_
    refine (r_iinc (y := 1) rfl rfl rfl rfl rfl rfl).trans ?_
    refine (r_goto rfl rfl).trans ?_
    exact rfl
  · refine (r_iload_n rfl rfl rfl).trans ?_
    exact r_iret rfl rfl

theorem en_X10_here {d : Nat} {E : pEv} {ro : Nat → Nat → Int32} {Q : Option Value → pH → Prop} (s_E : oE E) (b0 : ((ro 101 5) < (ro 101 6)) → ((ro 101 7) < 0) → (¬ ((ro 101 4) + (ro 101 5)) < 0 ∧ ((ro 101 4) + (ro 101 5)).toNatClampNeg < 264)) : wX (d + 1) 160 [.ref 101] (mkH E ro) Q = (if (ro 101 5) < (ro 101 6) then (if (ro 101 7) < 0 then Q (some (.int (ro 102 ((ro 101 4) + (ro 101 5)).toNatClampNeg))) (mkH E ro) else Q (some (.int (-1))) (mkH E ro)) else Q (some (.int (-1))) (mkH E ro)) := by
  refine (wX_in rfl (by decide)).trans ?_
  show wG d 160 (0, [.ref 101], [], mkH E ro) Q = _
  refine (r_aload_n rfl rfl rfl).trans ?_
  refine (r_getI (ci := 10) (sl := 5) rfl rfl rfl rfl (by decide)).trans ?_
  refine (r_aload_n rfl rfl rfl).trans ?_
  refine (r_getI (ci := 10) (sl := 6) rfl rfl rfl rfl (by decide)).trans ?_
  refine (r_icmp_ge rfl rfl rfl).trans ?_
  refine ite_congr rfl (fun h_0 => ?_) (fun h_0 => ?_)
  · refine (r_aload_n rfl rfl rfl).trans ?_
    refine (r_getI (ci := 10) (sl := 7) rfl rfl rfl rfl (by decide)).trans ?_
    refine (r_if_ge rfl rfl rfl).trans ?_
    refine ite_congr rfl (fun h_1 => ?_) (fun h_1 => ?_)
    · refine (r_aload_n rfl rfl rfl).trans ?_
      refine (r_getR (ci := 10) (sl := 0) s_E rfl rfl rfl rfl (by decide) rfl rfl).trans ?_
      refine (r_aload_n rfl rfl rfl).trans ?_
      refine (r_getI (ci := 10) (sl := 4) rfl rfl rfl rfl (by decide)).trans ?_
      refine (r_aload_n rfl rfl rfl).trans ?_
      refine (r_getI (ci := 10) (sl := 5) rfl rfl rfl rfl (by decide)).trans ?_
      refine (r_iadd rfl rfl).trans ?_
      refine (r_iald rfl rfl rfl (by decide) (b0 h_0 h_1)).trans ?_
      refine (r_goto rfl rfl).trans ?_
      exact r_iret rfl rfl
    · refine (r_iconst (v := (-1)) rfl rfl rfl).trans ?_
      exact r_iret rfl rfl
  · refine (r_iconst (v := (-1)) rfl rfl rfl).trans ?_
    exact r_iret rfl rfl

theorem en_X10_wrong {d : Nat} {E : pEv} {ro : Nat → Nat → Int32} {Q : Option Value → pH → Prop} (s_E : oE E) : wX (d + 1) 161 [.ref 101] (mkH E ro) Q = (if (ro 101 7) < 0 then Q (some (.int 0)) (mkH E (uI ro 101 7 (ro 101 5))) else Q (some (.int 0)) (mkH E (uI ro 101 7 (ro 101 7)))) := by
  refine (wX_in rfl (by decide)).trans ?_
  show wG d 161 (0, [.ref 101], [], mkH E ro) Q = _
  refine (r_aload_n rfl rfl rfl).trans ?_
  refine (r_aload_n rfl rfl rfl).trans ?_
  refine (r_getI (ci := 10) (sl := 7) rfl rfl rfl rfl (by decide)).trans ?_
  refine (r_if_ge rfl rfl rfl).trans ?_
  refine ite_congr rfl (fun h_0 => ?_) (fun h_0 => ?_)
  · refine (r_aload_n rfl rfl rfl).trans ?_
    refine (r_getI (ci := 10) (sl := 5) rfl rfl rfl rfl (by decide)).trans ?_
    refine (r_goto rfl rfl).trans ?_
    refine (r_putI (ci := 10) (sl := 7) rfl rfl rfl rfl (by decide)).trans ?_
    refine (r_iconst (v := 0) rfl rfl rfl).trans ?_
    exact r_iret rfl rfl
  · refine (r_aload_n rfl rfl rfl).trans ?_
    refine (r_getI (ci := 10) (sl := 7) rfl rfl rfl rfl (by decide)).trans ?_
    refine (r_putI (ci := 10) (sl := 7) rfl rfl rfl rfl (by decide)).trans ?_
    refine (r_iconst (v := 0) rfl rfl rfl).trans ?_
    exact r_iret rfl rfl

theorem en_X10_takes {d : Nat} {E : pEv} {ro : Nat → Nat → Int32} {Q : Option Value → pH → Prop} (s_E : oE E) {x1 : Int32} : wX (d + 1) 162 [.ref 101, .int x1] (mkH E ro) Q = wX d 160 [.ref 101] (mkH E ro) (fun v h' => wG d 162 (4, [.ref 101, .int x1], pv v [], h') Q) := by
  refine (wX_in rfl (by decide)).trans ?_
  show wG d 162 (0, [.ref 101, .int x1], [], mkH E ro) Q = _
  refine (r_aload_n rfl rfl rfl).trans ?_
  exact r_inv (m := 160) (c := 10) rfl rfl rfl rfl rfl rfl rfl rfl

theorem sg_X10_takes_4 {d : Nat} {E : pEv} {ro : Nat → Nat → Int32} {Q : Option Value → pH → Prop} (s_E : oE E) {x1 : Int32} {xs0 : Int32} : wG d 162 (4, [.ref 101, .int x1], [.int xs0], mkH E ro) Q = (if xs0 = x1 then Q (some (.int 1)) (mkH E (uI ro 101 5 ((ro 101 5) + 1))) else Q (some (.int 0)) (mkH E ro)) := by
  refine (r_iload_n rfl rfl rfl).trans ?_
  refine (r_icmp_eq rfl rfl rfl).trans ?_
  refine ite_congr rfl (fun h_0 => ?_) (fun h_0 => ?_)
  · refine (r_aload_n rfl rfl rfl).trans ?_
    refine (r_dupR rfl rfl).trans ?_
    refine (r_getI (ci := 10) (sl := 5) rfl rfl rfl rfl (by decide)).trans ?_
    refine (r_iconst (v := 1) rfl rfl rfl).trans ?_
    refine (r_iadd rfl rfl).trans ?_
    refine (r_putI (ci := 10) (sl := 5) rfl rfl rfl rfl (by decide)).trans ?_
    refine (r_iconst (v := 1) rfl rfl rfl).trans ?_
    exact r_zret rfl rfl rfl
  · refine (r_iconst (v := 0) rfl rfl rfl).trans ?_
    exact r_zret rfl rfl rfl

theorem en_X10_nameOf {d : Nat} {E : pEv} {ro : Nat → Nat → Int32} {Q : Option Value → pH → Prop} (s_E : oE E) {x1 : Int32} : wX (d + 1) 163 [.ref 101, .int x1] (mkH E ro) Q = (if (ro 101 9) = 0 then (if x1 = 99 then Q (some (.int 0)) (mkH E ro) else (if x1 = 108 then Q (some (.int 1)) (mkH E ro) else (if x1 = 109 then Q (some (.int 2)) (mkH E ro) else Q (some (.int (-1))) (mkH E ro)))) else (if x1 = 103 then Q (some (.int 0)) (mkH E ro) else (if x1 = 104 then Q (some (.int 1)) (mkH E ro) else (if x1 = 114 then Q (some (.int 2)) (mkH E ro) else Q (some (.int (-1))) (mkH E ro))))) := by
  refine (wX_in rfl (by decide)).trans ?_
  show wG d 163 (0, [.ref 101, .int x1], [], mkH E ro) Q = _
  refine (r_aload_n rfl rfl rfl).trans ?_
  refine (r_getI (ci := 10) (sl := 9) rfl rfl rfl rfl (by decide)).trans ?_
  refine (r_if_eq rfl rfl rfl).trans ?_
  refine ite_congr rfl (fun h_0 => ?_) (fun h_0 => ?_)
  · refine (r_iload_n rfl rfl rfl).trans ?_
    refine (r_bipush (v := 99) rfl rfl rfl).trans ?_
    refine (r_icmp_ne rfl rfl rfl).trans ?_
    refine ite_congr rfl (fun h_1 => ?_) (fun h_1 => ?_)
    · refine (r_iconst (v := 0) rfl rfl rfl).trans ?_
      refine (r_goto rfl rfl).trans ?_
      exact r_iret rfl rfl
    · refine (r_iload_n rfl rfl rfl).trans ?_
      refine (r_bipush (v := 108) rfl rfl rfl).trans ?_
      refine (r_icmp_ne rfl rfl rfl).trans ?_
      refine ite_congr rfl (fun h_2 => ?_) (fun h_2 => ?_)
      · refine (r_iconst (v := 1) rfl rfl rfl).trans ?_
        refine (r_goto rfl rfl).trans ?_
        exact r_iret rfl rfl
      · refine (r_iload_n rfl rfl rfl).trans ?_
        refine (r_bipush (v := 109) rfl rfl rfl).trans ?_
        refine (r_icmp_ne rfl rfl rfl).trans ?_
        refine ite_congr rfl (fun h_3 => ?_) (fun h_3 => ?_)
        · refine (r_iconst (v := 2) rfl rfl rfl).trans ?_
          refine (r_goto rfl rfl).trans ?_
          exact r_iret rfl rfl
        · refine (r_iconst (v := (-1)) rfl rfl rfl).trans ?_
          exact r_iret rfl rfl
  · refine (r_iload_n rfl rfl rfl).trans ?_
    refine (r_bipush (v := 103) rfl rfl rfl).trans ?_
    refine (r_icmp_ne rfl rfl rfl).trans ?_
    refine ite_congr rfl (fun h_1 => ?_) (fun h_1 => ?_)
    · refine (r_iconst (v := 0) rfl rfl rfl).trans ?_
      refine (r_goto rfl rfl).trans ?_
      exact r_iret rfl rfl
    · refine (r_iload_n rfl rfl rfl).trans ?_
      refine (r_bipush (v := 104) rfl rfl rfl).trans ?_
      refine (r_icmp_ne rfl rfl rfl).trans ?_
      refine ite_congr rfl (fun h_2 => ?_) (fun h_2 => ?_)
      · refine (r_iconst (v := 1) rfl rfl rfl).trans ?_
        refine (r_goto rfl rfl).trans ?_
        exact r_iret rfl rfl
      · refine (r_iload_n rfl rfl rfl).trans ?_
        refine (r_bipush (v := 114) rfl rfl rfl).trans ?_
        refine (r_icmp_ne rfl rfl rfl).trans ?_
        refine ite_congr rfl (fun h_3 => ?_) (fun h_3 => ?_)
        · refine (r_iconst (v := 2) rfl rfl rfl).trans ?_
          refine (r_goto rfl rfl).trans ?_
          exact r_iret rfl rfl
        · refine (r_iconst (v := (-1)) rfl rfl rfl).trans ?_
          exact r_iret rfl rfl

theorem en_X10_either {d : Nat} {E : pEv} {ro : Nat → Nat → Int32} {Q : Option Value → pH → Prop} (s_E : oE E) : wX (d + 1) 164 [.ref 101] (mkH E ro) Q = wX d 165 [.ref 101] (mkH E ro) (fun v h' => wG d 164 (4, [.ref 101, .retAddr 0, .retAddr 0], pv v [], h') Q) := by
  refine (wX_in rfl (by decide)).trans ?_
  show wG d 164 (0, [.ref 101, .retAddr 0, .retAddr 0], [], mkH E ro) Q = _
  refine (r_aload_n rfl rfl rfl).trans ?_
  exact r_inv (m := 165) (c := 10) rfl rfl rfl rfl rfl rfl rfl rfl

theorem sg_X10_either_4 {d : Nat} {E : pEv} {ro : Nat → Nat → Int32} {Q : Option Value → pH → Prop} (s_E : oE E) {v1 : Value} {v2 : Value} {xs0 : Int32} : wG d 164 (4, [.ref 101, v1, v2], [.int xs0], mkH E ro) Q = wG d 164 (5, [.ref 101, .int xs0, v2], [], mkH E ro) Q := by
  refine (r_istore_n rfl rfl rfl rfl).trans ?_
  exact rfl

theorem sg_X10_either_5 {d : Nat} {E : pEv} {ro : Nat → Nat → Int32} {Q : Option Value → pH → Prop} (s_E : oE E) {x1 : Int32} {v2 : Value} : wG d 164 (5, [.ref 101, .int x1, v2], [], mkH E ro) Q = wX d 162 [.ref 101, .int 124] (mkH E ro) (fun v h' => wG d 164 (11, [.ref 101, .int x1, v2], pv v [], h') Q) := by
  refine (r_aload_n rfl rfl rfl).trans ?_
  refine (r_bipush (v := 124) rfl rfl rfl).trans ?_
  exact r_inv (m := 162) (c := 10) rfl rfl rfl rfl rfl rfl rfl rfl

theorem sg_X10_either_11 {d : Nat} {E : pEv} {ro : Nat → Nat → Int32} {Q : Option Value → pH → Prop} (s_E : oE E) {x1 : Int32} {v2 : Value} {xs0 : Int32} : wG d 164 (11, [.ref 101, .int x1, v2], [.int xs0], mkH E ro) Q = (if xs0 = 0 then Q (some (.int x1)) (mkH E ro) else wX d 165 [.ref 101] (mkH E ro) (fun v h' => wG d 164 (18, [.ref 101, .int x1, v2], pv v [], h') Q)) := by
  refine (r_if_eq rfl rfl rfl).trans ?_
  refine ite_congr rfl (fun h_0 => ?_) (fun h_0 => ?_)
  · refine (r_iload_n rfl rfl rfl).trans ?_
    exact r_iret rfl rfl
  · refine (r_aload_n rfl rfl rfl).trans ?_
    exact r_inv (m := 165) (c := 10) rfl rfl rfl rfl rfl rfl rfl rfl

theorem sg_X10_either_18 {d : Nat} {E : pEv} {ro : Nat → Nat → Int32} {Q : Option Value → pH → Prop} (s_E : oE E) {x1 : Int32} {v2 : Value} {xs0 : Int32} : wG d 164 (18, [.ref 101, .int x1, v2], [.int xs0], mkH E ro) Q = (if x1 = 0 then (if xs0 = 0 then wG d 164 (5, [.ref 101, .int 0, .int xs0], [], mkH E ro) Q else wG d 164 (5, [.ref 101, .int 1, .int xs0], [], mkH E ro) Q) else wG d 164 (5, [.ref 101, .int 1, .int xs0], [], mkH E ro) Q) := by
  refine (r_istore_n rfl rfl rfl rfl).trans ?_
  refine (r_iload_n rfl rfl rfl).trans ?_
  refine (r_if_ne rfl rfl rfl).trans ?_
  refine ite_congr rfl (fun h_0 => ?_) (fun h_0 => ?_)
  · refine (r_iload_n rfl rfl rfl).trans ?_
    refine (r_if_eq rfl rfl rfl).trans ?_
    refine ite_congr rfl (fun h_1 => ?_) (fun h_1 => ?_)
    · refine (r_iconst (v := 0) rfl rfl rfl).trans ?_
      refine (r_istore_n rfl rfl rfl rfl).trans ?_
      refine (r_goto rfl rfl).trans ?_
      exact rfl
    · refine (r_iconst (v := 1) rfl rfl rfl).trans ?_
      refine (r_goto rfl rfl).trans ?_
      refine (r_istore_n rfl rfl rfl rfl).trans ?_
      refine (r_goto rfl rfl).trans ?_
      exact rfl
  · refine (r_iconst (v := 1) rfl rfl rfl).trans ?_
    refine (r_goto rfl rfl).trans ?_
    refine (r_istore_n rfl rfl rfl rfl).trans ?_
    refine (r_goto rfl rfl).trans ?_
    exact rfl

theorem en_X10_both {d : Nat} {E : pEv} {ro : Nat → Nat → Int32} {Q : Option Value → pH → Prop} (s_E : oE E) : wX (d + 1) 165 [.ref 101] (mkH E ro) Q = wX d 166 [.ref 101] (mkH E ro) (fun v h' => wG d 165 (4, [.ref 101, .retAddr 0, .retAddr 0], pv v [], h') Q) := by
  refine (wX_in rfl (by decide)).trans ?_
  show wG d 165 (0, [.ref 101, .retAddr 0, .retAddr 0], [], mkH E ro) Q = _
  refine (r_aload_n rfl rfl rfl).trans ?_
  exact r_inv (m := 166) (c := 10) rfl rfl rfl rfl rfl rfl rfl rfl

theorem sg_X10_both_4 {d : Nat} {E : pEv} {ro : Nat → Nat → Int32} {Q : Option Value → pH → Prop} (s_E : oE E) {v1 : Value} {v2 : Value} {xs0 : Int32} : wG d 165 (4, [.ref 101, v1, v2], [.int xs0], mkH E ro) Q = wG d 165 (5, [.ref 101, .int xs0, v2], [], mkH E ro) Q := by
  refine (r_istore_n rfl rfl rfl rfl).trans ?_
  exact rfl

theorem sg_X10_both_5 {d : Nat} {E : pEv} {ro : Nat → Nat → Int32} {Q : Option Value → pH → Prop} (s_E : oE E) {x1 : Int32} {v2 : Value} : wG d 165 (5, [.ref 101, .int x1, v2], [], mkH E ro) Q = wX d 162 [.ref 101, .int 38] (mkH E ro) (fun v h' => wG d 165 (11, [.ref 101, .int x1, v2], pv v [], h') Q) := by
  refine (r_aload_n rfl rfl rfl).trans ?_
  refine (r_bipush (v := 38) rfl rfl rfl).trans ?_
  exact r_inv (m := 162) (c := 10) rfl rfl rfl rfl rfl rfl rfl rfl

theorem sg_X10_both_11 {d : Nat} {E : pEv} {ro : Nat → Nat → Int32} {Q : Option Value → pH → Prop} (s_E : oE E) {x1 : Int32} {v2 : Value} {xs0 : Int32} : wG d 165 (11, [.ref 101, .int x1, v2], [.int xs0], mkH E ro) Q = (if xs0 = 0 then Q (some (.int x1)) (mkH E ro) else wX d 166 [.ref 101] (mkH E ro) (fun v h' => wG d 165 (18, [.ref 101, .int x1, v2], pv v [], h') Q)) := by
  refine (r_if_eq rfl rfl rfl).trans ?_
  refine ite_congr rfl (fun h_0 => ?_) (fun h_0 => ?_)
  · refine (r_iload_n rfl rfl rfl).trans ?_
    exact r_iret rfl rfl
  · refine (r_aload_n rfl rfl rfl).trans ?_
    exact r_inv (m := 166) (c := 10) rfl rfl rfl rfl rfl rfl rfl rfl

theorem sg_X10_both_18 {d : Nat} {E : pEv} {ro : Nat → Nat → Int32} {Q : Option Value → pH → Prop} (s_E : oE E) {x1 : Int32} {v2 : Value} {xs0 : Int32} : wG d 165 (18, [.ref 101, .int x1, v2], [.int xs0], mkH E ro) Q = (if x1 = 0 then wG d 165 (5, [.ref 101, .int 0, .int xs0], [], mkH E ro) Q else (if xs0 = 0 then wG d 165 (5, [.ref 101, .int 0, .int xs0], [], mkH E ro) Q else wG d 165 (5, [.ref 101, .int 1, .int xs0], [], mkH E ro) Q)) := by
  refine (r_istore_n rfl rfl rfl rfl).trans ?_
  refine (r_iload_n rfl rfl rfl).trans ?_
  refine (r_if_eq rfl rfl rfl).trans ?_
  refine ite_congr rfl (fun h_0 => ?_) (fun h_0 => ?_)
  · refine (r_iconst (v := 0) rfl rfl rfl).trans ?_
    refine (r_istore_n rfl rfl rfl rfl).trans ?_
    refine (r_goto rfl rfl).trans ?_
    exact rfl
  · refine (r_iload_n rfl rfl rfl).trans ?_
    refine (r_if_eq rfl rfl rfl).trans ?_
    refine ite_congr rfl (fun h_1 => ?_) (fun h_1 => ?_)
    · refine (r_iconst (v := 0) rfl rfl rfl).trans ?_
      refine (r_istore_n rfl rfl rfl rfl).trans ?_
      refine (r_goto rfl rfl).trans ?_
      exact rfl
    · refine (r_iconst (v := 1) rfl rfl rfl).trans ?_
      refine (r_goto rfl rfl).trans ?_
      refine (r_istore_n rfl rfl rfl rfl).trans ?_
      refine (r_goto rfl rfl).trans ?_
      exact rfl

theorem en_X10_compared {d : Nat} {E : pEv} {ro : Nat → Nat → Int32} {Q : Option Value → pH → Prop} (s_E : oE E) : wX (d + 1) 166 [.ref 101] (mkH E ro) Q = wX d 167 [.ref 101] (mkH E ro) (fun v h' => wG d 166 (4, [.ref 101, .retAddr 0, .retAddr 0, .retAddr 0], pv v [], h') Q) := by
  refine (wX_in rfl (by decide)).trans ?_
  show wG d 166 (0, [.ref 101, .retAddr 0, .retAddr 0, .retAddr 0], [], mkH E ro) Q = _
  refine (r_aload_n rfl rfl rfl).trans ?_
  exact r_inv (m := 167) (c := 10) rfl rfl rfl rfl rfl rfl rfl rfl

theorem sg_X10_compared_4 {d : Nat} {E : pEv} {ro : Nat → Nat → Int32} {Q : Option Value → pH → Prop} (s_E : oE E) {v1 : Value} {v2 : Value} {v3 : Value} {xs0 : Int32} : wG d 166 (4, [.ref 101, v1, v2, v3], [.int xs0], mkH E ro) Q = wX d 160 [.ref 101] (mkH E ro) (fun v h' => wG d 166 (9, [.ref 101, .int xs0, v2, v3], pv v [], h') Q) := by
  refine (r_istore_n rfl rfl rfl rfl).trans ?_
  refine (r_aload_n rfl rfl rfl).trans ?_
  exact r_inv (m := 160) (c := 10) rfl rfl rfl rfl rfl rfl rfl rfl

theorem sg_X10_compared_9 {d : Nat} {E : pEv} {ro : Nat → Nat → Int32} {Q : Option Value → pH → Prop} (s_E : oE E) {x1 : Int32} {v2 : Value} {v3 : Value} {xs0 : Int32} : wG d 166 (9, [.ref 101, .int x1, v2, v3], [.int xs0], mkH E ro) Q = (if xs0 = 60 then wX d 167 [.ref 101] (mkH E (uI ro 101 5 ((ro 101 5) + 1))) (fun v h' => wG d 166 (44, [.ref 101, .int x1, .int xs0, v3], pv v [], h') Q) else (if xs0 = 61 then wX d 167 [.ref 101] (mkH E (uI ro 101 5 ((ro 101 5) + 1))) (fun v h' => wG d 166 (44, [.ref 101, .int x1, .int xs0, v3], pv v [], h') Q) else (if xs0 = 62 then wX d 167 [.ref 101] (mkH E (uI ro 101 5 ((ro 101 5) + 1))) (fun v h' => wG d 166 (44, [.ref 101, .int x1, .int xs0, v3], pv v [], h') Q) else Q (some (.int x1)) (mkH E ro)))) := by
  refine (r_istore_n rfl rfl rfl rfl).trans ?_
  refine (r_iload_n rfl rfl rfl).trans ?_
  refine (r_bipush (v := 60) rfl rfl rfl).trans ?_
  refine (r_icmp_eq rfl rfl rfl).trans ?_
  refine ite_congr rfl (fun h_0 => ?_) (fun h_0 => ?_)
  · refine (r_aload_n rfl rfl rfl).trans ?_
    refine (r_dupR rfl rfl).trans ?_
    refine (r_getI (ci := 10) (sl := 5) rfl rfl rfl rfl (by decide)).trans ?_
    refine (r_iconst (v := 1) rfl rfl rfl).trans ?_
    refine (r_iadd rfl rfl).trans ?_
    refine (r_putI (ci := 10) (sl := 5) rfl rfl rfl rfl (by decide)).trans ?_
    refine (r_aload_n rfl rfl rfl).trans ?_
    exact r_inv (m := 167) (c := 10) rfl rfl rfl rfl rfl rfl rfl rfl
  · refine (r_iload_n rfl rfl rfl).trans ?_
    refine (r_bipush (v := 61) rfl rfl rfl).trans ?_
    refine (r_icmp_eq rfl rfl rfl).trans ?_
    refine ite_congr rfl (fun h_1 => ?_) (fun h_1 => ?_)
    · refine (r_aload_n rfl rfl rfl).trans ?_
      refine (r_dupR rfl rfl).trans ?_
      refine (r_getI (ci := 10) (sl := 5) rfl rfl rfl rfl (by decide)).trans ?_
      refine (r_iconst (v := 1) rfl rfl rfl).trans ?_
      refine (r_iadd rfl rfl).trans ?_
      refine (r_putI (ci := 10) (sl := 5) rfl rfl rfl rfl (by decide)).trans ?_
      refine (r_aload_n rfl rfl rfl).trans ?_
      exact r_inv (m := 167) (c := 10) rfl rfl rfl rfl rfl rfl rfl rfl
    · refine (r_iload_n rfl rfl rfl).trans ?_
      refine (r_bipush (v := 62) rfl rfl rfl).trans ?_
      refine (r_icmp_eq rfl rfl rfl).trans ?_
      refine ite_congr rfl (fun h_2 => ?_) (fun h_2 => ?_)
      · refine (r_aload_n rfl rfl rfl).trans ?_
        refine (r_dupR rfl rfl).trans ?_
        refine (r_getI (ci := 10) (sl := 5) rfl rfl rfl rfl (by decide)).trans ?_
        refine (r_iconst (v := 1) rfl rfl rfl).trans ?_
        refine (r_iadd rfl rfl).trans ?_
        refine (r_putI (ci := 10) (sl := 5) rfl rfl rfl rfl (by decide)).trans ?_
        refine (r_aload_n rfl rfl rfl).trans ?_
        exact r_inv (m := 167) (c := 10) rfl rfl rfl rfl rfl rfl rfl rfl
      · refine (r_iload_n rfl rfl rfl).trans ?_
        exact r_iret rfl rfl

theorem sg_X10_compared_44 {d : Nat} {E : pEv} {ro : Nat → Nat → Int32} {Q : Option Value → pH → Prop} (s_E : oE E) {x1 : Int32} {x2 : Int32} {v3 : Value} {xs0 : Int32} : wG d 166 (44, [.ref 101, .int x1, .int x2, v3], [.int xs0], mkH E ro) Q = (if x2 = 60 then (if x1 < xs0 then Q (some (.int 1)) (mkH E ro) else Q (some (.int 0)) (mkH E ro)) else (if x2 = 61 then (if x1 = xs0 then Q (some (.int 1)) (mkH E ro) else Q (some (.int 0)) (mkH E ro)) else (if xs0 < x1 then Q (some (.int 1)) (mkH E ro) else Q (some (.int 0)) (mkH E ro)))) := by
  refine (r_istore_n rfl rfl rfl rfl).trans ?_
  refine (r_iload_n rfl rfl rfl).trans ?_
  refine (r_bipush (v := 60) rfl rfl rfl).trans ?_
  refine (r_icmp_ne rfl rfl rfl).trans ?_
  refine ite_congr rfl (fun h_0 => ?_) (fun h_0 => ?_)
  · refine (r_iload_n rfl rfl rfl).trans ?_
    refine (r_iload_n rfl rfl rfl).trans ?_
    refine (r_icmp_ge rfl rfl rfl).trans ?_
    refine ite_congr rfl (fun h_1 => ?_) (fun h_1 => ?_)
    · refine (r_goto rfl rfl).trans ?_
      refine (r_iconst (v := 1) rfl rfl rfl).trans ?_
      refine (r_goto rfl rfl).trans ?_
      exact r_iret rfl rfl
    · refine (r_iconst (v := 0) rfl rfl rfl).trans ?_
      exact r_iret rfl rfl
  · refine (r_iload_n rfl rfl rfl).trans ?_
    refine (r_bipush (v := 61) rfl rfl rfl).trans ?_
    refine (r_icmp_ne rfl rfl rfl).trans ?_
    refine ite_congr rfl (fun h_1 => ?_) (fun h_1 => ?_)
    · refine (r_iload_n rfl rfl rfl).trans ?_
      refine (r_iload_n rfl rfl rfl).trans ?_
      refine (r_icmp_ne rfl rfl rfl).trans ?_
      refine ite_congr rfl (fun h_2 => ?_) (fun h_2 => ?_)
      · refine (r_goto rfl rfl).trans ?_
        refine (r_iconst (v := 1) rfl rfl rfl).trans ?_
        refine (r_goto rfl rfl).trans ?_
        exact r_iret rfl rfl
      · refine (r_iconst (v := 0) rfl rfl rfl).trans ?_
        exact r_iret rfl rfl
    · refine (r_iload_n rfl rfl rfl).trans ?_
      refine (r_iload_n rfl rfl rfl).trans ?_
      refine (r_icmp_le rfl rfl rfl).trans ?_
      refine ite_congr rfl (fun h_2 => ?_) (fun h_2 => ?_)
      · refine (r_iconst (v := 1) rfl rfl rfl).trans ?_
        refine (r_goto rfl rfl).trans ?_
        exact r_iret rfl rfl
      · refine (r_iconst (v := 0) rfl rfl rfl).trans ?_
        exact r_iret rfl rfl

theorem en_X10_sum {d : Nat} {E : pEv} {ro : Nat → Nat → Int32} {Q : Option Value → pH → Prop} (s_E : oE E) : wX (d + 1) 167 [.ref 101] (mkH E ro) Q = wX d 168 [.ref 101] (mkH E ro) (fun v h' => wG d 167 (4, [.ref 101, .retAddr 0, .retAddr 0, .retAddr 0], pv v [], h') Q) := by
  refine (wX_in rfl (by decide)).trans ?_
  show wG d 167 (0, [.ref 101, .retAddr 0, .retAddr 0, .retAddr 0], [], mkH E ro) Q = _
  refine (r_aload_n rfl rfl rfl).trans ?_
  exact r_inv (m := 168) (c := 10) rfl rfl rfl rfl rfl rfl rfl rfl

theorem sg_X10_sum_4 {d : Nat} {E : pEv} {ro : Nat → Nat → Int32} {Q : Option Value → pH → Prop} (s_E : oE E) {v1 : Value} {v2 : Value} {v3 : Value} {xs0 : Int32} : wG d 167 (4, [.ref 101, v1, v2, v3], [.int xs0], mkH E ro) Q = wG d 167 (5, [.ref 101, .int xs0, v2, v3], [], mkH E ro) Q := by
  refine (r_istore_n rfl rfl rfl rfl).trans ?_
  exact rfl

theorem sg_X10_sum_5 {d : Nat} {E : pEv} {ro : Nat → Nat → Int32} {Q : Option Value → pH → Prop} (s_E : oE E) {x1 : Int32} {v2 : Value} {v3 : Value} : wG d 167 (5, [.ref 101, .int x1, v2, v3], [], mkH E ro) Q = wX d 160 [.ref 101] (mkH E ro) (fun v h' => wG d 167 (9, [.ref 101, .int x1, v2, v3], pv v [], h') Q) := by
  refine (r_aload_n rfl rfl rfl).trans ?_
  exact r_inv (m := 160) (c := 10) rfl rfl rfl rfl rfl rfl rfl rfl

theorem sg_X10_sum_9 {d : Nat} {E : pEv} {ro : Nat → Nat → Int32} {Q : Option Value → pH → Prop} (s_E : oE E) {x1 : Int32} {v2 : Value} {v3 : Value} {xs0 : Int32} : wG d 167 (9, [.ref 101, .int x1, v2, v3], [.int xs0], mkH E ro) Q = (if xs0 = 43 then wX d 160 [.ref 101] (mkH E ro) (fun v h' => wG d 167 (27, [.ref 101, .int x1, v2, v3], pv v [], h') Q) else wX d 160 [.ref 101] (mkH E ro) (fun v h' => wG d 167 (18, [.ref 101, .int x1, v2, v3], pv v [], h') Q)) := by
  refine (r_bipush (v := 43) rfl rfl rfl).trans ?_
  refine (r_icmp_eq rfl rfl rfl).trans ?_
  refine ite_congr rfl (fun h_0 => ?_) (fun h_0 => ?_)
  · refine (r_aload_n rfl rfl rfl).trans ?_
    exact r_inv (m := 160) (c := 10) rfl rfl rfl rfl rfl rfl rfl rfl
  · refine (r_aload_n rfl rfl rfl).trans ?_
    exact r_inv (m := 160) (c := 10) rfl rfl rfl rfl rfl rfl rfl rfl

theorem sg_X10_sum_18 {d : Nat} {E : pEv} {ro : Nat → Nat → Int32} {Q : Option Value → pH → Prop} (s_E : oE E) {x1 : Int32} {v2 : Value} {v3 : Value} {xs0 : Int32} : wG d 167 (18, [.ref 101, .int x1, v2, v3], [.int xs0], mkH E ro) Q = (if xs0 = 45 then wX d 160 [.ref 101] (mkH E ro) (fun v h' => wG d 167 (27, [.ref 101, .int x1, v2, v3], pv v [], h') Q) else Q (some (.int x1)) (mkH E ro)) := by
  refine (r_bipush (v := 45) rfl rfl rfl).trans ?_
  refine (r_icmp_ne rfl rfl rfl).trans ?_
  refine ite_congr rfl (fun h_0 => ?_) (fun h_0 => ?_)
  · refine (r_aload_n rfl rfl rfl).trans ?_
    exact r_inv (m := 160) (c := 10) rfl rfl rfl rfl rfl rfl rfl rfl
  · refine (r_iload_n rfl rfl rfl).trans ?_
    exact r_iret rfl rfl

theorem sg_X10_sum_27 {d : Nat} {E : pEv} {ro : Nat → Nat → Int32} {Q : Option Value → pH → Prop} (s_E : oE E) {x1 : Int32} {v2 : Value} {v3 : Value} {xs0 : Int32} : wG d 167 (27, [.ref 101, .int x1, v2, v3], [.int xs0], mkH E ro) Q = wX d 168 [.ref 101] (mkH E (uI ro 101 5 ((ro 101 5) + 1))) (fun v h' => wG d 167 (42, [.ref 101, .int x1, .int xs0, v3], pv v [], h') Q) := by
  refine (r_istore_n rfl rfl rfl rfl).trans ?_
  refine (r_aload_n rfl rfl rfl).trans ?_
  refine (r_dupR rfl rfl).trans ?_
  refine (r_getI (ci := 10) (sl := 5) rfl rfl rfl rfl (by decide)).trans ?_
  refine (r_iconst (v := 1) rfl rfl rfl).trans ?_
  refine (r_iadd rfl rfl).trans ?_
  refine (r_putI (ci := 10) (sl := 5) rfl rfl rfl rfl (by decide)).trans ?_
  refine (r_aload_n rfl rfl rfl).trans ?_
  exact r_inv (m := 168) (c := 10) rfl rfl rfl rfl rfl rfl rfl rfl

theorem sg_X10_sum_42 {d : Nat} {E : pEv} {ro : Nat → Nat → Int32} {Q : Option Value → pH → Prop} (s_E : oE E) {x1 : Int32} {x2 : Int32} {v3 : Value} {xs0 : Int32} : wG d 167 (42, [.ref 101, .int x1, .int x2, v3], [.int xs0], mkH E ro) Q = (if x2 = 43 then wG d 167 (5, [.ref 101, .int (x1 + xs0), .int x2, .int xs0], [], mkH E ro) Q else wG d 167 (5, [.ref 101, .int (x1 - xs0), .int x2, .int xs0], [], mkH E ro) Q) := by
  refine (r_istore_n rfl rfl rfl rfl).trans ?_
  refine (r_iload_n rfl rfl rfl).trans ?_
  refine (r_bipush (v := 43) rfl rfl rfl).trans ?_
  refine (r_icmp_ne rfl rfl rfl).trans ?_
  refine ite_congr rfl (fun h_0 => ?_) (fun h_0 => ?_)
  · refine (r_iload_n rfl rfl rfl).trans ?_
    refine (r_iload_n rfl rfl rfl).trans ?_
    refine (r_iadd rfl rfl).trans ?_
    refine (r_goto rfl rfl).trans ?_
    refine (r_istore_n rfl rfl rfl rfl).trans ?_
    refine (r_goto rfl rfl).trans ?_
    exact rfl
  · refine (r_iload_n rfl rfl rfl).trans ?_
    refine (r_iload_n rfl rfl rfl).trans ?_
    refine (r_isub rfl rfl).trans ?_
    refine (r_istore_n rfl rfl rfl rfl).trans ?_
    refine (r_goto rfl rfl).trans ?_
    exact rfl

theorem en_X10_product {d : Nat} {E : pEv} {ro : Nat → Nat → Int32} {Q : Option Value → pH → Prop} (s_E : oE E) : wX (d + 1) 168 [.ref 101] (mkH E ro) Q = wX d 169 [.ref 101] (mkH E ro) (fun v h' => wG d 168 (4, [.ref 101, .retAddr 0, .retAddr 0, .retAddr 0], pv v [], h') Q) := by
  refine (wX_in rfl (by decide)).trans ?_
  show wG d 168 (0, [.ref 101, .retAddr 0, .retAddr 0, .retAddr 0], [], mkH E ro) Q = _
  refine (r_aload_n rfl rfl rfl).trans ?_
  exact r_inv (m := 169) (c := 10) rfl rfl rfl rfl rfl rfl rfl rfl

theorem sg_X10_product_4 {d : Nat} {E : pEv} {ro : Nat → Nat → Int32} {Q : Option Value → pH → Prop} (s_E : oE E) {v1 : Value} {v2 : Value} {v3 : Value} {xs0 : Int32} : wG d 168 (4, [.ref 101, v1, v2, v3], [.int xs0], mkH E ro) Q = wG d 168 (5, [.ref 101, .int xs0, v2, v3], [], mkH E ro) Q := by
  refine (r_istore_n rfl rfl rfl rfl).trans ?_
  exact rfl

theorem sg_X10_product_5 {d : Nat} {E : pEv} {ro : Nat → Nat → Int32} {Q : Option Value → pH → Prop} (s_E : oE E) {x1 : Int32} {v2 : Value} {v3 : Value} : wG d 168 (5, [.ref 101, .int x1, v2, v3], [], mkH E ro) Q = wX d 160 [.ref 101] (mkH E ro) (fun v h' => wG d 168 (9, [.ref 101, .int x1, v2, v3], pv v [], h') Q) := by
  refine (r_aload_n rfl rfl rfl).trans ?_
  exact r_inv (m := 160) (c := 10) rfl rfl rfl rfl rfl rfl rfl rfl

theorem sg_X10_product_9 {d : Nat} {E : pEv} {ro : Nat → Nat → Int32} {Q : Option Value → pH → Prop} (s_E : oE E) {x1 : Int32} {v2 : Value} {v3 : Value} {xs0 : Int32} : wG d 168 (9, [.ref 101, .int x1, v2, v3], [.int xs0], mkH E ro) Q = (if xs0 = 42 then wX d 160 [.ref 101] (mkH E ro) (fun v h' => wG d 168 (36, [.ref 101, .int x1, v2, v3], pv v [], h') Q) else wX d 160 [.ref 101] (mkH E ro) (fun v h' => wG d 168 (18, [.ref 101, .int x1, v2, v3], pv v [], h') Q)) := by
  refine (r_bipush (v := 42) rfl rfl rfl).trans ?_
  refine (r_icmp_eq rfl rfl rfl).trans ?_
  refine ite_congr rfl (fun h_0 => ?_) (fun h_0 => ?_)
  · refine (r_aload_n rfl rfl rfl).trans ?_
    exact r_inv (m := 160) (c := 10) rfl rfl rfl rfl rfl rfl rfl rfl
  · refine (r_aload_n rfl rfl rfl).trans ?_
    exact r_inv (m := 160) (c := 10) rfl rfl rfl rfl rfl rfl rfl rfl

theorem sg_X10_product_18 {d : Nat} {E : pEv} {ro : Nat → Nat → Int32} {Q : Option Value → pH → Prop} (s_E : oE E) {x1 : Int32} {v2 : Value} {v3 : Value} {xs0 : Int32} : wG d 168 (18, [.ref 101, .int x1, v2, v3], [.int xs0], mkH E ro) Q = (if xs0 = 47 then wX d 160 [.ref 101] (mkH E ro) (fun v h' => wG d 168 (36, [.ref 101, .int x1, v2, v3], pv v [], h') Q) else wX d 160 [.ref 101] (mkH E ro) (fun v h' => wG d 168 (27, [.ref 101, .int x1, v2, v3], pv v [], h') Q)) := by
  refine (r_bipush (v := 47) rfl rfl rfl).trans ?_
  refine (r_icmp_eq rfl rfl rfl).trans ?_
  refine ite_congr rfl (fun h_0 => ?_) (fun h_0 => ?_)
  · refine (r_aload_n rfl rfl rfl).trans ?_
    exact r_inv (m := 160) (c := 10) rfl rfl rfl rfl rfl rfl rfl rfl
  · refine (r_aload_n rfl rfl rfl).trans ?_
    exact r_inv (m := 160) (c := 10) rfl rfl rfl rfl rfl rfl rfl rfl

theorem sg_X10_product_27 {d : Nat} {E : pEv} {ro : Nat → Nat → Int32} {Q : Option Value → pH → Prop} (s_E : oE E) {x1 : Int32} {v2 : Value} {v3 : Value} {xs0 : Int32} : wG d 168 (27, [.ref 101, .int x1, v2, v3], [.int xs0], mkH E ro) Q = (if xs0 = 37 then wX d 160 [.ref 101] (mkH E ro) (fun v h' => wG d 168 (36, [.ref 101, .int x1, v2, v3], pv v [], h') Q) else Q (some (.int x1)) (mkH E ro)) := by
  refine (r_bipush (v := 37) rfl rfl rfl).trans ?_
  refine (r_icmp_ne rfl rfl rfl).trans ?_
  refine ite_congr rfl (fun h_0 => ?_) (fun h_0 => ?_)
  · refine (r_aload_n rfl rfl rfl).trans ?_
    exact r_inv (m := 160) (c := 10) rfl rfl rfl rfl rfl rfl rfl rfl
  · refine (r_iload_n rfl rfl rfl).trans ?_
    exact r_iret rfl rfl

theorem sg_X10_product_36 {d : Nat} {E : pEv} {ro : Nat → Nat → Int32} {Q : Option Value → pH → Prop} (s_E : oE E) {x1 : Int32} {v2 : Value} {v3 : Value} {xs0 : Int32} : wG d 168 (36, [.ref 101, .int x1, v2, v3], [.int xs0], mkH E ro) Q = wX d 169 [.ref 101] (mkH E (uI ro 101 5 ((ro 101 5) + 1))) (fun v h' => wG d 168 (51, [.ref 101, .int x1, .int xs0, v3], pv v [], h') Q) := by
  refine (r_istore_n rfl rfl rfl rfl).trans ?_
  refine (r_aload_n rfl rfl rfl).trans ?_
  refine (r_dupR rfl rfl).trans ?_
  refine (r_getI (ci := 10) (sl := 5) rfl rfl rfl rfl (by decide)).trans ?_
  refine (r_iconst (v := 1) rfl rfl rfl).trans ?_
  refine (r_iadd rfl rfl).trans ?_
  refine (r_putI (ci := 10) (sl := 5) rfl rfl rfl rfl (by decide)).trans ?_
  refine (r_aload_n rfl rfl rfl).trans ?_
  exact r_inv (m := 169) (c := 10) rfl rfl rfl rfl rfl rfl rfl rfl

theorem sg_X10_product_51 {d : Nat} {E : pEv} {ro : Nat → Nat → Int32} {Q : Option Value → pH → Prop} (s_E : oE E) {x1 : Int32} {x2 : Int32} {v3 : Value} {xs0 : Int32} : wG d 168 (51, [.ref 101, .int x1, .int x2, v3], [.int xs0], mkH E ro) Q = (if x2 = 42 then wG d 168 (5, [.ref 101, .int (x1 * xs0), .int x2, .int xs0], [], mkH E ro) Q else (if xs0 = 0 then wG d 168 (5, [.ref 101, .int 0, .int x2, .int xs0], [], mkH E ro) Q else (if x2 = 47 then wG d 168 (5, [.ref 101, .int (x1 / xs0), .int x2, .int xs0], [], mkH E ro) Q else wG d 168 (5, [.ref 101, .int (x1 - x1 / xs0 * xs0), .int x2, .int xs0], [], mkH E ro) Q))) := by
  refine (r_istore_n rfl rfl rfl rfl).trans ?_
  refine (r_iload_n rfl rfl rfl).trans ?_
  refine (r_bipush (v := 42) rfl rfl rfl).trans ?_
  refine (r_icmp_ne rfl rfl rfl).trans ?_
  refine ite_congr rfl (fun h_0 => ?_) (fun h_0 => ?_)
  · refine (r_iload_n rfl rfl rfl).trans ?_
    refine (r_iload_n rfl rfl rfl).trans ?_
    refine (r_imul rfl rfl).trans ?_
    refine (r_goto rfl rfl).trans ?_
    refine (r_istore_n rfl rfl rfl rfl).trans ?_
    refine (r_goto rfl rfl).trans ?_
    exact rfl
  · refine (r_iload_n rfl rfl rfl).trans ?_
    refine (r_if_ne rfl rfl rfl).trans ?_
    refine ite_congr rfl (fun h_1 => ?_) (fun h_1 => ?_)
    · refine (r_iconst (v := 0) rfl rfl rfl).trans ?_
      refine (r_goto rfl rfl).trans ?_
      refine (r_istore_n rfl rfl rfl rfl).trans ?_
      refine (r_goto rfl rfl).trans ?_
      exact rfl
    · refine (r_iload_n rfl rfl rfl).trans ?_
      refine (r_bipush (v := 47) rfl rfl rfl).trans ?_
      refine (r_icmp_ne rfl rfl rfl).trans ?_
      refine ite_congr rfl (fun h_2 => ?_) (fun h_2 => ?_)
      · refine (r_iload_n rfl rfl rfl).trans ?_
        refine (r_iload_n rfl rfl rfl).trans ?_
        refine (r_idiv rfl rfl h_1).trans ?_
        refine (r_goto rfl rfl).trans ?_
        refine (r_istore_n rfl rfl rfl rfl).trans ?_
        refine (r_goto rfl rfl).trans ?_
        exact rfl
      · refine (r_iload_n rfl rfl rfl).trans ?_
        refine (r_iload_n rfl rfl rfl).trans ?_
        refine (r_irem rfl rfl h_1).trans ?_
        refine (r_istore_n rfl rfl rfl rfl).trans ?_
        refine (r_goto rfl rfl).trans ?_
        exact rfl

theorem en_X10_unit {d : Nat} {E : pEv} {ro : Nat → Nat → Int32} {Q : Option Value → pH → Prop} (s_E : oE E) : wX (d + 1) 169 [.ref 101] (mkH E ro) Q = wX d 160 [.ref 101] (mkH E ro) (fun v h' => wG d 169 (4, [.ref 101, .retAddr 0, .retAddr 0, .retAddr 0, .retAddr 0], pv v [], h') Q) := by
  refine (wX_in rfl (by decide)).trans ?_
  show wG d 169 (0, [.ref 101, .retAddr 0, .retAddr 0, .retAddr 0, .retAddr 0], [], mkH E ro) Q = _
  refine (r_aload_n rfl rfl rfl).trans ?_
  exact r_inv (m := 160) (c := 10) rfl rfl rfl rfl rfl rfl rfl rfl

theorem sg_X10_unit_4 {d : Nat} {E : pEv} {ro : Nat → Nat → Int32} {Q : Option Value → pH → Prop} (s_E : oE E) {v1 : Value} {v2 : Value} {v3 : Value} {v4 : Value} {xs0 : Int32} : wG d 169 (4, [.ref 101, v1, v2, v3, v4], [.int xs0], mkH E ro) Q = (if xs0 = 33 then (if (ro 101 8) = 5 then wX d 161 [.ref 101] (mkH E ro) (fun v h' => wG d 169 (29, [.ref 101, .int xs0, v2, v3, v4], pv v [], h') Q) else (if xs0 = 40 then wX d 164 [.ref 101] (mkH E (uI (uI ro 101 8 ((ro 101 8) + 1)) 101 5 (((uI ro 101 8 ((ro 101 8) + 1)) 101 5) + 1))) (fun v h' => wG d 169 (60, [.ref 101, .int xs0, v2, v3, v4], pv v [], h') Q) else wX d 169 [.ref 101] (mkH E (uI (uI ro 101 8 ((ro 101 8) + 1)) 101 5 (((uI ro 101 8 ((ro 101 8) + 1)) 101 5) + 1))) (fun v h' => wG d 169 (67, [.ref 101, .int xs0, v2, v3, v4], pv v [], h') Q))) else (if xs0 = 40 then (if (ro 101 8) = 5 then wX d 161 [.ref 101] (mkH E ro) (fun v h' => wG d 169 (29, [.ref 101, .int xs0, v2, v3, v4], pv v [], h') Q) else (if xs0 = 40 then wX d 164 [.ref 101] (mkH E (uI (uI ro 101 8 ((ro 101 8) + 1)) 101 5 (((uI ro 101 8 ((ro 101 8) + 1)) 101 5) + 1))) (fun v h' => wG d 169 (60, [.ref 101, .int xs0, v2, v3, v4], pv v [], h') Q) else wX d 169 [.ref 101] (mkH E (uI (uI ro 101 8 ((ro 101 8) + 1)) 101 5 (((uI ro 101 8 ((ro 101 8) + 1)) 101 5) + 1))) (fun v h' => wG d 169 (67, [.ref 101, .int xs0, v2, v3, v4], pv v [], h') Q))) else wX d 163 [.ref 101, .int xs0] (mkH E ro) (fun v h' => wG d 169 (123, [.ref 101, .int xs0, v2, v3, v4], pv v [], h') Q))) := by
  refine (r_istore_n rfl rfl rfl rfl).trans ?_
  refine (r_iload_n rfl rfl rfl).trans ?_
  refine (r_bipush (v := 33) rfl rfl rfl).trans ?_
  refine (r_icmp_eq rfl rfl rfl).trans ?_
  refine ite_congr rfl (fun h_0 => ?_) (fun h_0 => ?_)
  · refine (r_aload_n rfl rfl rfl).trans ?_
    refine (r_getI (ci := 10) (sl := 8) rfl rfl rfl rfl (by decide)).trans ?_
    refine (r_iconst (v := 5) rfl rfl rfl).trans ?_
    refine (r_icmp_ne rfl rfl rfl).trans ?_
    refine ite_congr rfl (fun h_1 => ?_) (fun h_1 => ?_)
    · refine (r_aload_n rfl rfl rfl).trans ?_
      exact r_inv (m := 161) (c := 10) rfl rfl rfl rfl rfl rfl rfl rfl
    · refine (r_aload_n rfl rfl rfl).trans ?_
      refine (r_dupR rfl rfl).trans ?_
      refine (r_getI (ci := 10) (sl := 8) rfl rfl rfl rfl (by decide)).trans ?_
      refine (r_iconst (v := 1) rfl rfl rfl).trans ?_
      refine (r_iadd rfl rfl).trans ?_
      refine (r_putI (ci := 10) (sl := 8) rfl rfl rfl rfl (by decide)).trans ?_
      refine (r_aload_n rfl rfl rfl).trans ?_
      refine (r_dupR rfl rfl).trans ?_
      refine (r_getI (ci := 10) (sl := 5) rfl rfl rfl rfl (by decide)).trans ?_
      refine (r_iconst (v := 1) rfl rfl rfl).trans ?_
      refine (r_iadd rfl rfl).trans ?_
      refine (r_putI (ci := 10) (sl := 5) rfl rfl rfl rfl (by decide)).trans ?_
      refine (r_iload_n rfl rfl rfl).trans ?_
      refine (r_bipush (v := 40) rfl rfl rfl).trans ?_
      refine (r_icmp_ne rfl rfl rfl).trans ?_
      refine ite_congr rfl (fun h_2 => ?_) (fun h_2 => ?_)
      · refine (r_aload_n rfl rfl rfl).trans ?_
        exact r_inv (m := 164) (c := 10) rfl rfl rfl rfl rfl rfl rfl rfl
      · refine (r_aload_n rfl rfl rfl).trans ?_
        exact r_inv (m := 169) (c := 10) rfl rfl rfl rfl rfl rfl rfl rfl
  · refine (r_iload_n rfl rfl rfl).trans ?_
    refine (r_bipush (v := 40) rfl rfl rfl).trans ?_
    refine (r_icmp_ne rfl rfl rfl).trans ?_
    refine ite_congr rfl (fun h_1 => ?_) (fun h_1 => ?_)
    · refine (r_aload_n rfl rfl rfl).trans ?_
      refine (r_getI (ci := 10) (sl := 8) rfl rfl rfl rfl (by decide)).trans ?_
      refine (r_iconst (v := 5) rfl rfl rfl).trans ?_
      refine (r_icmp_ne rfl rfl rfl).trans ?_
      refine ite_congr rfl (fun h_2 => ?_) (fun h_2 => ?_)
      · refine (r_aload_n rfl rfl rfl).trans ?_
        exact r_inv (m := 161) (c := 10) rfl rfl rfl rfl rfl rfl rfl rfl
      · refine (r_aload_n rfl rfl rfl).trans ?_
        refine (r_dupR rfl rfl).trans ?_
        refine (r_getI (ci := 10) (sl := 8) rfl rfl rfl rfl (by decide)).trans ?_
        refine (r_iconst (v := 1) rfl rfl rfl).trans ?_
        refine (r_iadd rfl rfl).trans ?_
        refine (r_putI (ci := 10) (sl := 8) rfl rfl rfl rfl (by decide)).trans ?_
        refine (r_aload_n rfl rfl rfl).trans ?_
        refine (r_dupR rfl rfl).trans ?_
        refine (r_getI (ci := 10) (sl := 5) rfl rfl rfl rfl (by decide)).trans ?_
        refine (r_iconst (v := 1) rfl rfl rfl).trans ?_
        refine (r_iadd rfl rfl).trans ?_
        refine (r_putI (ci := 10) (sl := 5) rfl rfl rfl rfl (by decide)).trans ?_
        refine (r_iload_n rfl rfl rfl).trans ?_
        refine (r_bipush (v := 40) rfl rfl rfl).trans ?_
        refine (r_icmp_ne rfl rfl rfl).trans ?_
        refine ite_congr rfl (fun h_3 => ?_) (fun h_3 => ?_)
        · refine (r_aload_n rfl rfl rfl).trans ?_
          exact r_inv (m := 164) (c := 10) rfl rfl rfl rfl rfl rfl rfl rfl
        · refine (r_aload_n rfl rfl rfl).trans ?_
          exact r_inv (m := 169) (c := 10) rfl rfl rfl rfl rfl rfl rfl rfl
    · refine (r_aload_n rfl rfl rfl).trans ?_
      refine (r_iload_n rfl rfl rfl).trans ?_
      exact r_inv (m := 163) (c := 10) rfl rfl rfl rfl rfl rfl rfl rfl

theorem sg_X10_unit_29 {d : Nat} {E : pEv} {ro : Nat → Nat → Int32} {Q : Option Value → pH → Prop} (s_E : oE E) {x1 : Int32} {v2 : Value} {v3 : Value} {v4 : Value} {xs0 : Int32} : wG d 169 (29, [.ref 101, .int x1, v2, v3, v4], [.int xs0], mkH E ro) Q = Q (some (.int xs0)) (mkH E ro) := by
  exact r_iret rfl rfl

theorem sg_X10_unit_60 {d : Nat} {E : pEv} {ro : Nat → Nat → Int32} {Q : Option Value → pH → Prop} (s_E : oE E) {x1 : Int32} {v2 : Value} {v3 : Value} {v4 : Value} {xs0 : Int32} : wG d 169 (60, [.ref 101, .int x1, v2, v3, v4], [.int xs0], mkH E ro) Q = (if x1 = 40 then wX d 162 [.ref 101, .int 41] (mkH E ro) (fun v h' => wG d 169 (80, [.ref 101, .int x1, .int xs0, v3, v4], pv v [], h') Q) else (if x1 = 40 then Q (some (.int xs0)) (mkH E (uI ro 101 8 ((ro 101 8) - 1))) else (if xs0 = 0 then Q (some (.int 1)) (mkH E (uI ro 101 8 ((ro 101 8) - 1))) else Q (some (.int 0)) (mkH E (uI ro 101 8 ((ro 101 8) - 1)))))) := by
  refine (r_goto rfl rfl).trans ?_
  refine (r_istore_n rfl rfl rfl rfl).trans ?_
  refine (r_iload_n rfl rfl rfl).trans ?_
  refine (r_bipush (v := 40) rfl rfl rfl).trans ?_
  refine (r_icmp_ne rfl rfl rfl).trans ?_
  refine ite_congr rfl (fun h_0 => ?_) (fun h_0 => ?_)
  · refine (r_aload_n rfl rfl rfl).trans ?_
    refine (r_bipush (v := 41) rfl rfl rfl).trans ?_
    exact r_inv (m := 162) (c := 10) rfl rfl rfl rfl rfl rfl rfl rfl
  · refine (r_aload_n rfl rfl rfl).trans ?_
    refine (r_dupR rfl rfl).trans ?_
    refine (r_getI (ci := 10) (sl := 8) rfl rfl rfl rfl (by decide)).trans ?_
    refine (r_iconst (v := 1) rfl rfl rfl).trans ?_
    refine (r_isub rfl rfl).trans ?_
    refine (r_putI (ci := 10) (sl := 8) rfl rfl rfl rfl (by decide)).trans ?_
    refine (r_iload_n rfl rfl rfl).trans ?_
    refine (r_bipush (v := 40) rfl rfl rfl).trans ?_
    refine (r_icmp_ne rfl rfl rfl).trans ?_
    refine ite_congr rfl (fun h_1 => ?_) (fun h_1 => ?_)
    · refine (r_iload_n rfl rfl rfl).trans ?_
      refine (r_goto rfl rfl).trans ?_
      exact r_iret rfl rfl
    · refine (r_iload_n rfl rfl rfl).trans ?_
      refine (r_if_ne rfl rfl rfl).trans ?_
      refine ite_congr rfl (fun h_2 => ?_) (fun h_2 => ?_)
      · refine (r_iconst (v := 1) rfl rfl rfl).trans ?_
        refine (r_goto rfl rfl).trans ?_
        exact r_iret rfl rfl
      · refine (r_iconst (v := 0) rfl rfl rfl).trans ?_
        exact r_iret rfl rfl

theorem sg_X10_unit_67 {d : Nat} {E : pEv} {ro : Nat → Nat → Int32} {Q : Option Value → pH → Prop} (s_E : oE E) {x1 : Int32} {v2 : Value} {v3 : Value} {v4 : Value} {xs0 : Int32} : wG d 169 (67, [.ref 101, .int x1, v2, v3, v4], [.int xs0], mkH E ro) Q = (if x1 = 40 then wX d 162 [.ref 101, .int 41] (mkH E ro) (fun v h' => wG d 169 (80, [.ref 101, .int x1, .int xs0, v3, v4], pv v [], h') Q) else (if x1 = 40 then Q (some (.int xs0)) (mkH E (uI ro 101 8 ((ro 101 8) - 1))) else (if xs0 = 0 then Q (some (.int 1)) (mkH E (uI ro 101 8 ((ro 101 8) - 1))) else Q (some (.int 0)) (mkH E (uI ro 101 8 ((ro 101 8) - 1)))))) := by
  refine (r_istore_n rfl rfl rfl rfl).trans ?_
  refine (r_iload_n rfl rfl rfl).trans ?_
  refine (r_bipush (v := 40) rfl rfl rfl).trans ?_
  refine (r_icmp_ne rfl rfl rfl).trans ?_
  refine ite_congr rfl (fun h_0 => ?_) (fun h_0 => ?_)
  · refine (r_aload_n rfl rfl rfl).trans ?_
    refine (r_bipush (v := 41) rfl rfl rfl).trans ?_
    exact r_inv (m := 162) (c := 10) rfl rfl rfl rfl rfl rfl rfl rfl
  · refine (r_aload_n rfl rfl rfl).trans ?_
    refine (r_dupR rfl rfl).trans ?_
    refine (r_getI (ci := 10) (sl := 8) rfl rfl rfl rfl (by decide)).trans ?_
    refine (r_iconst (v := 1) rfl rfl rfl).trans ?_
    refine (r_isub rfl rfl).trans ?_
    refine (r_putI (ci := 10) (sl := 8) rfl rfl rfl rfl (by decide)).trans ?_
    refine (r_iload_n rfl rfl rfl).trans ?_
    refine (r_bipush (v := 40) rfl rfl rfl).trans ?_
    refine (r_icmp_ne rfl rfl rfl).trans ?_
    refine ite_congr rfl (fun h_1 => ?_) (fun h_1 => ?_)
    · refine (r_iload_n rfl rfl rfl).trans ?_
      refine (r_goto rfl rfl).trans ?_
      exact r_iret rfl rfl
    · refine (r_iload_n rfl rfl rfl).trans ?_
      refine (r_if_ne rfl rfl rfl).trans ?_
      refine ite_congr rfl (fun h_2 => ?_) (fun h_2 => ?_)
      · refine (r_iconst (v := 1) rfl rfl rfl).trans ?_
        refine (r_goto rfl rfl).trans ?_
        exact r_iret rfl rfl
      · refine (r_iconst (v := 0) rfl rfl rfl).trans ?_
        exact r_iret rfl rfl

theorem sg_X10_unit_80 {d : Nat} {E : pEv} {ro : Nat → Nat → Int32} {Q : Option Value → pH → Prop} (s_E : oE E) {x1 : Int32} {x2 : Int32} {v3 : Value} {v4 : Value} {xs0 : Int32} : wG d 169 (80, [.ref 101, .int x1, .int x2, v3, v4], [.int xs0], mkH E ro) Q = (if xs0 = 0 then wX d 161 [.ref 101] (mkH E ro) (fun v h' => wG d 169 (87, [.ref 101, .int x1, .int x2, v3, v4], pv v [], h') Q) else (if x1 = 40 then Q (some (.int x2)) (mkH E (uI ro 101 8 ((ro 101 8) - 1))) else (if x2 = 0 then Q (some (.int 1)) (mkH E (uI ro 101 8 ((ro 101 8) - 1))) else Q (some (.int 0)) (mkH E (uI ro 101 8 ((ro 101 8) - 1)))))) := by
  refine (r_if_ne rfl rfl rfl).trans ?_
  refine ite_congr rfl (fun h_0 => ?_) (fun h_0 => ?_)
  · refine (r_aload_n rfl rfl rfl).trans ?_
    exact r_inv (m := 161) (c := 10) rfl rfl rfl rfl rfl rfl rfl rfl
  · refine (r_aload_n rfl rfl rfl).trans ?_
    refine (r_dupR rfl rfl).trans ?_
    refine (r_getI (ci := 10) (sl := 8) rfl rfl rfl rfl (by decide)).trans ?_
    refine (r_iconst (v := 1) rfl rfl rfl).trans ?_
    refine (r_isub rfl rfl).trans ?_
    refine (r_putI (ci := 10) (sl := 8) rfl rfl rfl rfl (by decide)).trans ?_
    refine (r_iload_n rfl rfl rfl).trans ?_
    refine (r_bipush (v := 40) rfl rfl rfl).trans ?_
    refine (r_icmp_ne rfl rfl rfl).trans ?_
    refine ite_congr rfl (fun h_1 => ?_) (fun h_1 => ?_)
    · refine (r_iload_n rfl rfl rfl).trans ?_
      refine (r_goto rfl rfl).trans ?_
      exact r_iret rfl rfl
    · refine (r_iload_n rfl rfl rfl).trans ?_
      refine (r_if_ne rfl rfl rfl).trans ?_
      refine ite_congr rfl (fun h_2 => ?_) (fun h_2 => ?_)
      · refine (r_iconst (v := 1) rfl rfl rfl).trans ?_
        refine (r_goto rfl rfl).trans ?_
        exact r_iret rfl rfl
      · refine (r_iconst (v := 0) rfl rfl rfl).trans ?_
        exact r_iret rfl rfl

theorem sg_X10_unit_87 {d : Nat} {E : pEv} {ro : Nat → Nat → Int32} {Q : Option Value → pH → Prop} (s_E : oE E) {x1 : Int32} {x2 : Int32} {v3 : Value} {v4 : Value} {xs0 : Int32} : wG d 169 (87, [.ref 101, .int x1, .int x2, v3, v4], [.int xs0], mkH E ro) Q = Q (some (.int xs0)) (mkH E ro) := by
  exact r_iret rfl rfl

theorem sg_X10_unit_123 {d : Nat} {E : pEv} {ro : Nat → Nat → Int32} {Q : Option Value → pH → Prop} (s_E : oE E) {x1 : Int32} {v2 : Value} {v3 : Value} {v4 : Value} {xs0 : Int32} (b0 : (¬ xs0 < 0) → (¬ xs0 < 0 ∧ xs0.toNatClampNeg < 3)) : wG d 169 (123, [.ref 101, .int x1, v2, v3, v4], [.int xs0], mkH E ro) Q = (if xs0 < 0 then wG d 169 (150, [.ref 101, .int x1, .int xs0, .int 0, .int 0], [], mkH E ro) Q else Q (some (.int ((uI ro 101 5 ((ro 101 5) + 1)) 105 xs0.toNatClampNeg))) (mkH E (uI ro 101 5 ((ro 101 5) + 1)))) := by
  refine (r_istore_n rfl rfl rfl rfl).trans ?_
  refine (r_iload_n rfl rfl rfl).trans ?_
  refine (r_if_lt rfl rfl rfl).trans ?_
  refine ite_congr rfl (fun h_0 => ?_) (fun h_0 => ?_)
  · refine (r_iconst (v := 0) rfl rfl rfl).trans ?_
    refine (r_istore_n rfl rfl rfl rfl).trans ?_
    refine (r_iconst (v := 0) rfl rfl rfl).trans ?_
    refine (r_istore rfl rfl rfl rfl).trans ?_
    exact rfl
  · refine (r_aload_n rfl rfl rfl).trans ?_
    refine (r_dupR rfl rfl).trans ?_
    refine (r_getI (ci := 10) (sl := 5) rfl rfl rfl rfl (by decide)).trans ?_
    refine (r_iconst (v := 1) rfl rfl rfl).trans ?_
    refine (r_iadd rfl rfl).trans ?_
    refine (r_putI (ci := 10) (sl := 5) rfl rfl rfl rfl (by decide)).trans ?_
    refine (r_aload_n rfl rfl rfl).trans ?_
    refine (r_getR (ci := 10) (sl := 10) s_E rfl rfl rfl rfl (by decide) rfl rfl).trans ?_
    refine (r_iload_n rfl rfl rfl).trans ?_
    refine (r_iald rfl rfl rfl (by decide) (b0 h_0)).trans ?_
    exact r_iret rfl rfl

theorem sg_X10_unit_150 {d : Nat} {E : pEv} {ro : Nat → Nat → Int32} {Q : Option Value → pH → Prop} (s_E : oE E) {x1 : Int32} {x2 : Int32} {x3 : Int32} {x4 : Int32} : wG d 169 (150, [.ref 101, .int x1, .int x2, .int x3, .int x4], [], mkH E ro) Q = (if x4 < 4 then wX d 160 [.ref 101] (mkH E ro) (fun v h' => wG d 169 (160, [.ref 101, .int x1, .int x2, .int x3, .int x4], pv v [], h') Q) else (if x4 = 0 then wX d 161 [.ref 101] (mkH E ro) (fun v h' => wG d 169 (211, [.ref 101, .int x1, .int x2, .int x3, .int x4], pv v [], h') Q) else Q (some (.int x3)) (mkH E ro))) := by
  refine (r_iload rfl rfl rfl).trans ?_
  refine (r_iconst (v := 4) rfl rfl rfl).trans ?_
  refine (r_icmp_ge rfl rfl rfl).trans ?_
  refine ite_congr rfl (fun h_0 => ?_) (fun h_0 => ?_)
  · refine (r_aload_n rfl rfl rfl).trans ?_
    exact r_inv (m := 160) (c := 10) rfl rfl rfl rfl rfl rfl rfl rfl
  · refine (r_iload rfl rfl rfl).trans ?_
    refine (r_if_ne rfl rfl rfl).trans ?_
    refine ite_congr rfl (fun h_1 => ?_) (fun h_1 => ?_)
    · refine (r_aload_n rfl rfl rfl).trans ?_
      exact r_inv (m := 161) (c := 10) rfl rfl rfl rfl rfl rfl rfl rfl
    · refine (r_iload_n rfl rfl rfl).trans ?_
      exact r_iret rfl rfl

theorem sg_X10_unit_160 {d : Nat} {E : pEv} {ro : Nat → Nat → Int32} {Q : Option Value → pH → Prop} (s_E : oE E) {x1 : Int32} {x2 : Int32} {x3 : Int32} {x4 : Int32} {xs0 : Int32} : wG d 169 (160, [.ref 101, .int x1, .int x2, .int x3, .int x4], [.int xs0], mkH E ro) Q = wX d 154 [.long xs0.toInt64, .long 48, .long 57] (mkH E ro) (fun v h' => wG d 169 (170, [.ref 101, .int x1, .int x2, .int x3, .int x4], pv v [], h') Q) := by
  refine (r_i2l rfl rfl).trans ?_
  refine (r_ldc2_w (w := 48) rfl rfl rfl).trans ?_
  refine (r_ldc2_w (w := 57) rfl rfl rfl).trans ?_
  exact r_ins (m := 154) rfl rfl rfl rfl rfl rfl

theorem sg_X10_unit_170 {d : Nat} {E : pEv} {ro : Nat → Nat → Int32} {Q : Option Value → pH → Prop} (s_E : oE E) {x1 : Int32} {x2 : Int32} {x3 : Int32} {x4 : Int32} {xs0 : Int32} : wG d 169 (170, [.ref 101, .int x1, .int x2, .int x3, .int x4], [.int xs0], mkH E ro) Q = (if xs0 = 0 then (if x4 = 0 then wX d 161 [.ref 101] (mkH E ro) (fun v h' => wG d 169 (211, [.ref 101, .int x1, .int x2, .int x3, .int x4], pv v [], h') Q) else Q (some (.int x3)) (mkH E ro)) else wX d 160 [.ref 101] (mkH E ro) (fun v h' => wG d 169 (181, [.ref 101, .int x1, .int x2, .int x3, .int x4], pv v [.int (10 * x3)], h') Q)) := by
  refine (r_if_eq rfl rfl rfl).trans ?_
  refine ite_congr rfl (fun h_0 => ?_) (fun h_0 => ?_)
  · refine (r_iload rfl rfl rfl).trans ?_
    refine (r_if_ne rfl rfl rfl).trans ?_
    refine ite_congr rfl (fun h_1 => ?_) (fun h_1 => ?_)
    · refine (r_aload_n rfl rfl rfl).trans ?_
      exact r_inv (m := 161) (c := 10) rfl rfl rfl rfl rfl rfl rfl rfl
    · refine (r_iload_n rfl rfl rfl).trans ?_
      exact r_iret rfl rfl
  · refine (r_bipush (v := 10) rfl rfl rfl).trans ?_
    refine (r_iload_n rfl rfl rfl).trans ?_
    refine (r_imul rfl rfl).trans ?_
    refine (r_aload_n rfl rfl rfl).trans ?_
    exact r_inv (m := 160) (c := 10) rfl rfl rfl rfl rfl rfl rfl rfl

theorem sg_X10_unit_181 {d : Nat} {E : pEv} {ro : Nat → Nat → Int32} {Q : Option Value → pH → Prop} (s_E : oE E) {x1 : Int32} {x2 : Int32} {x3 : Int32} {x4 : Int32} {xs0 : Int32} {xs1 : Int32} : wG d 169 (181, [.ref 101, .int x1, .int x2, .int x3, .int x4], [.int xs1, .int xs0], mkH E ro) Q = wG d 169 (150, [.ref 101, .int x1, .int x2, .int ((xs0 + xs1) - 48), .int (x4 + 1)], [], mkH E (uI ro 101 5 ((ro 101 5) + 1))) Q := by
  refine (r_iadd rfl rfl).trans ?_
  refine (r_bipush (v := 48) rfl rfl rfl).trans ?_
  refine (r_isub rfl rfl).trans ?_
  refine (r_istore_n rfl rfl rfl rfl).trans ?_
  refine (r_aload_n rfl rfl rfl).trans ?_
  refine (r_dupR rfl rfl).trans ?_
  refine (r_getI (ci := 10) (sl := 5) rfl rfl rfl rfl (by decide)).trans ?_
  refine (r_iconst (v := 1) rfl rfl rfl).trans ?_
  refine (r_iadd rfl rfl).trans ?_
  refine (r_putI (ci := 10) (sl := 5) rfl rfl rfl rfl (by decide)).trans ?_
  refine (r_iinc (y := 1) rfl rfl rfl rfl rfl rfl).trans ?_
  refine (r_goto rfl rfl).trans ?_
  exact rfl

theorem sg_X10_unit_211 {d : Nat} {E : pEv} {ro : Nat → Nat → Int32} {Q : Option Value → pH → Prop} (s_E : oE E) {x1 : Int32} {x2 : Int32} {x3 : Int32} {x4 : Int32} {xs0 : Int32} : wG d 169 (211, [.ref 101, .int x1, .int x2, .int x3, .int x4], [.int xs0], mkH E ro) Q = Q (some (.int xs0)) (mkH E ro) := by
  refine (r_goto rfl rfl).trans ?_
  exact r_iret rfl rfl

theorem en_X10_worked {d : Nat} {E : pEv} {ro : Nat → Nat → Int32} {Q : Option Value → pH → Prop} (s_E : oE E) {x1 : Int32} {x2 : Int32} {x3 : Int32} : wX (d + 1) 170 [.ref 101, .int x1, .int x2, .int x3] (mkH E ro) Q = (if x3 = 1 then wX d 164 [.ref 101] (mkH E (uI (uI (uI (uI (uI (uI ro 101 4 x1) 101 5 0) 101 6 x2) 101 7 (-1)) 101 8 0) 101 9 1)) (fun v h' => wG d 170 (43, [.ref 101, .int x1, .int x2, .int x3, .retAddr 0], pv v [], h') Q) else wX d 164 [.ref 101] (mkH E (uI (uI (uI (uI (uI (uI ro 101 4 x1) 101 5 0) 101 6 x2) 101 7 (-1)) 101 8 0) 101 9 0)) (fun v h' => wG d 170 (43, [.ref 101, .int x1, .int x2, .int x3, .retAddr 0], pv v [], h') Q)) := by
  refine (wX_in rfl (by decide)).trans ?_
  show wG d 170 (0, [.ref 101, .int x1, .int x2, .int x3, .retAddr 0], [], mkH E ro) Q = _
  refine (r_aload_n rfl rfl rfl).trans ?_
  refine (r_iload_n rfl rfl rfl).trans ?_
  refine (r_putI (ci := 10) (sl := 4) rfl rfl rfl rfl (by decide)).trans ?_
  refine (r_aload_n rfl rfl rfl).trans ?_
  refine (r_iconst (v := 0) rfl rfl rfl).trans ?_
  refine (r_putI (ci := 10) (sl := 5) rfl rfl rfl rfl (by decide)).trans ?_
  refine (r_aload_n rfl rfl rfl).trans ?_
  refine (r_iload_n rfl rfl rfl).trans ?_
  refine (r_putI (ci := 10) (sl := 6) rfl rfl rfl rfl (by decide)).trans ?_
  refine (r_aload_n rfl rfl rfl).trans ?_
  refine (r_iconst (v := (-1)) rfl rfl rfl).trans ?_
  refine (r_putI (ci := 10) (sl := 7) rfl rfl rfl rfl (by decide)).trans ?_
  refine (r_aload_n rfl rfl rfl).trans ?_
  refine (r_iconst (v := 0) rfl rfl rfl).trans ?_
  refine (r_putI (ci := 10) (sl := 8) rfl rfl rfl rfl (by decide)).trans ?_
  refine (r_aload_n rfl rfl rfl).trans ?_
  refine (r_iload_n rfl rfl rfl).trans ?_
  refine (r_iconst (v := 1) rfl rfl rfl).trans ?_
  refine (r_icmp_ne rfl rfl rfl).trans ?_
  refine ite_congr rfl (fun h_0 => ?_) (fun h_0 => ?_)
  · refine (r_iconst (v := 1) rfl rfl rfl).trans ?_
    refine (r_goto rfl rfl).trans ?_
    refine (r_putZ (ci := 10) (sl := 9) rfl rfl rfl rfl (by decide) (Or.inr rfl)).trans ?_
    refine (r_aload_n rfl rfl rfl).trans ?_
    exact r_inv (m := 164) (c := 10) rfl rfl rfl rfl rfl rfl rfl rfl
  · refine (r_iconst (v := 0) rfl rfl rfl).trans ?_
    refine (r_putZ (ci := 10) (sl := 9) rfl rfl rfl rfl (by decide) (Or.inl rfl)).trans ?_
    refine (r_aload_n rfl rfl rfl).trans ?_
    exact r_inv (m := 164) (c := 10) rfl rfl rfl rfl rfl rfl rfl rfl

theorem sg_X10_worked_43 {d : Nat} {E : pEv} {ro : Nat → Nat → Int32} {Q : Option Value → pH → Prop} (s_E : oE E) {x1 : Int32} {x2 : Int32} {x3 : Int32} {v4 : Value} {xs0 : Int32} : wG d 170 (43, [.ref 101, .int x1, .int x2, .int x3, v4], [.int xs0], mkH E ro) Q = (if (ro 101 7) < 0 then (if (ro 101 5) < (ro 101 6) then wX d 161 [.ref 101] (mkH E ro) (fun v h' => wG d 170 (67, [.ref 101, .int x1, .int x2, .int x3, .int xs0], pv v [], h') Q) else Q (some (.int xs0)) (mkH E ro)) else Q (some (.int xs0)) (mkH E ro)) := by
  refine (r_istore rfl rfl rfl rfl).trans ?_
  refine (r_aload_n rfl rfl rfl).trans ?_
  refine (r_getI (ci := 10) (sl := 7) rfl rfl rfl rfl (by decide)).trans ?_
  refine (r_if_ge rfl rfl rfl).trans ?_
  refine ite_congr rfl (fun h_0 => ?_) (fun h_0 => ?_)
  · refine (r_aload_n rfl rfl rfl).trans ?_
    refine (r_getI (ci := 10) (sl := 5) rfl rfl rfl rfl (by decide)).trans ?_
    refine (r_aload_n rfl rfl rfl).trans ?_
    refine (r_getI (ci := 10) (sl := 6) rfl rfl rfl rfl (by decide)).trans ?_
    refine (r_icmp_ge rfl rfl rfl).trans ?_
    refine ite_congr rfl (fun h_1 => ?_) (fun h_1 => ?_)
    · refine (r_aload_n rfl rfl rfl).trans ?_
      exact r_inv (m := 161) (c := 10) rfl rfl rfl rfl rfl rfl rfl rfl
    · refine (r_iload rfl rfl rfl).trans ?_
      exact r_iret rfl rfl
  · refine (r_iload rfl rfl rfl).trans ?_
    exact r_iret rfl rfl

theorem sg_X10_worked_67 {d : Nat} {E : pEv} {ro : Nat → Nat → Int32} {Q : Option Value → pH → Prop} (s_E : oE E) {x1 : Int32} {x2 : Int32} {x3 : Int32} {x4 : Int32} {xs0 : Int32} : wG d 170 (67, [.ref 101, .int x1, .int x2, .int x3, .int x4], [.int xs0], mkH E ro) Q = Q (some (.int xs0)) (mkH E ro) := by
  exact r_iret rfl rfl

theorem en_X10_feed {d : Nat} {E : pEv} {ro : Nat → Nat → Int32} {Q : Option Value → pH → Prop} (s_E : oE E) {w1 : Int64} {x3 : Int32} : wX (d + 1) 171 [.ref 101, .long w1, .int x3] (mkH E ro) Q = wX d 154 [.long x3.toInt64, .long 1, .long 8] (mkH E ro) (fun v h' => wG d 171 (9, [.ref 101, .long w1, .retAddr 0, .int x3, .retAddr 0], pv v [], h') Q) := by
  refine (wX_in rfl (by decide)).trans ?_
  show wG d 171 (0, [.ref 101, .long w1, .retAddr 0, .int x3, .retAddr 0], [], mkH E ro) Q = _
  refine (r_iload_n rfl rfl rfl).trans ?_
  refine (r_i2l rfl rfl).trans ?_
  refine (r_lconst (w := 1) rfl rfl rfl).trans ?_
  refine (r_ldc2_w (w := 8) rfl rfl rfl).trans ?_
  exact r_ins (m := 154) rfl rfl rfl rfl rfl rfl

theorem sg_X10_feed_9 {d : Nat} {E : pEv} {ro : Nat → Nat → Int32} {Q : Option Value → pH → Prop} (s_E : oE E) {w1 : Int64} {v2 : Value} {x3 : Int32} {v4 : Value} {xs0 : Int32} : wG d 171 (9, [.ref 101, .long w1, v2, .int x3, v4], [.int xs0], mkH E ro) Q = (if xs0 = 0 then wX d 153 [.ref 101, .int 1] (mkH E ro) (fun v h' => wG d 171 (17, [.ref 101, .long w1, v2, .int x3, v4], pv v [], h') Q) else (if 50 < ((ro 102 5) + x3) then wX d 153 [.ref 101, .int 4] (mkH E ro) (fun v h' => wG d 171 (36, [.ref 101, .long w1, v2, .int x3, v4], pv v [], h') Q) else wG d 171 (40, [.ref 101, .long w1, v2, .int x3, .int 0], [], mkH E ro) Q)) := by
  refine (r_if_ne rfl rfl rfl).trans ?_
  refine ite_congr rfl (fun h_0 => ?_) (fun h_0 => ?_)
  · refine (r_aload_n rfl rfl rfl).trans ?_
    refine (r_iconst (v := 1) rfl rfl rfl).trans ?_
    exact r_inv (m := 153) (c := 10) rfl rfl rfl rfl rfl rfl rfl rfl
  · refine (r_aload_n rfl rfl rfl).trans ?_
    refine (r_getR (ci := 10) (sl := 0) s_E rfl rfl rfl rfl (by decide) rfl rfl).trans ?_
    refine (r_iconst (v := 5) rfl rfl rfl).trans ?_
    refine (r_iald rfl rfl rfl (by decide) (by decide)).trans ?_
    refine (r_iload_n rfl rfl rfl).trans ?_
    refine (r_iadd rfl rfl).trans ?_
    refine (r_bipush (v := 50) rfl rfl rfl).trans ?_
    refine (r_icmp_le rfl rfl rfl).trans ?_
    refine ite_congr rfl (fun h_1 => ?_) (fun h_1 => ?_)
    · refine (r_aload_n rfl rfl rfl).trans ?_
      refine (r_iconst (v := 4) rfl rfl rfl).trans ?_
      exact r_inv (m := 153) (c := 10) rfl rfl rfl rfl rfl rfl rfl rfl
    · refine (r_iconst (v := 0) rfl rfl rfl).trans ?_
      refine (r_istore rfl rfl rfl rfl).trans ?_
      exact rfl

theorem sg_X10_feed_17 {d : Nat} {E : pEv} {ro : Nat → Nat → Int32} {Q : Option Value → pH → Prop} (s_E : oE E) {w1 : Int64} {v2 : Value} {x3 : Int32} {v4 : Value} {xs0 : Int32} : wG d 171 (17, [.ref 101, .long w1, v2, .int x3, v4], [.int xs0], mkH E ro) Q = Q (some (.int xs0)) (mkH E ro) := by
  exact r_iret rfl rfl

theorem sg_X10_feed_36 {d : Nat} {E : pEv} {ro : Nat → Nat → Int32} {Q : Option Value → pH → Prop} (s_E : oE E) {w1 : Int64} {v2 : Value} {x3 : Int32} {v4 : Value} {xs0 : Int32} : wG d 171 (36, [.ref 101, .long w1, v2, .int x3, v4], [.int xs0], mkH E ro) Q = Q (some (.int xs0)) (mkH E ro) := by
  exact r_iret rfl rfl

theorem sg_X10_feed_40 {d : Nat} {E : pEv} {ro : Nat → Nat → Int32} {Q : Option Value → pH → Prop} (s_E : oE E) {w1 : Int64} {v2 : Value} {x3 : Int32} {x4 : Int32} (b0 : (x4 < x3) → (¬ (212 + (ro 102 5)) < 0 ∧ (212 + (ro 102 5)).toNatClampNeg < 264)) : wG d 171 (40, [.ref 101, .long w1, v2, .int x3, .int x4], [], mkH E ro) Q = (if x4 < x3 then wG d 171 (40, [.ref 101, .long w1, v2, .int x3, .int (x4 + 1)], [], mkH E (uI (uI ro 102 (212 + (ro 102 5)).toNatClampNeg (((w1 >>> ((8 * x4).toInt64 &&& 63)) &&& 255).toInt32)) 102 5 (((uI ro 102 (212 + (ro 102 5)).toNatClampNeg (((w1 >>> ((8 * x4).toInt64 &&& 63)) &&& 255).toInt32)) 102 5) + 1))) Q else Q (some (.int (ro 102 5))) (mkH E ro)) := by
  refine (r_iload rfl rfl rfl).trans ?_
  refine (r_iload_n rfl rfl rfl).trans ?_
  refine (r_icmp_ge rfl rfl rfl).trans ?_
  refine ite_congr rfl (fun h_0 => ?_) (fun h_0 => ?_)
  · refine (r_aload_n rfl rfl rfl).trans ?_
    refine (r_getR (ci := 10) (sl := 0) s_E rfl rfl rfl rfl (by decide) rfl rfl).trans ?_
    refine (r_sipush (v := 212) rfl rfl rfl).trans ?_
    refine (r_aload_n rfl rfl rfl).trans ?_
    refine (r_getR (ci := 10) (sl := 0) s_E rfl rfl rfl rfl (by decide) rfl rfl).trans ?_
    refine (r_iconst (v := 5) rfl rfl rfl).trans ?_
    refine (r_iald rfl rfl rfl (by decide) (by decide)).trans ?_
    refine (r_iadd rfl rfl).trans ?_
    refine (r_lload_n rfl rfl rfl).trans ?_
    refine (r_bipush (v := 8) rfl rfl rfl).trans ?_
    refine (r_iload rfl rfl rfl).trans ?_
    refine (r_imul rfl rfl).trans ?_
    refine (r_lshr rfl rfl).trans ?_
    refine (r_ldc2_w (w := 255) rfl rfl rfl).trans ?_
    refine (r_land rfl rfl).trans ?_
    refine (r_l2i rfl rfl).trans ?_
    refine (r_iast rfl rfl rfl (by decide) (b0 h_0)).trans ?_
    refine (r_aload_n rfl rfl rfl).trans ?_
    refine (r_getR (ci := 10) (sl := 0) s_E rfl rfl rfl rfl (by decide) rfl rfl).trans ?_
    refine (r_iconst (v := 5) rfl rfl rfl).trans ?_
    refine (r_dup2 rfl rfl).trans ?_
    refine (r_iald rfl rfl rfl (by decide) (by decide)).trans ?_
    refine (r_iconst (v := 1) rfl rfl rfl).trans ?_
    refine (r_iadd rfl rfl).trans ?_
    refine (r_iast rfl rfl rfl (by decide) (by decide)).trans ?_
    refine (r_iinc (y := 1) rfl rfl rfl rfl rfl rfl).trans ?_
    refine (r_goto rfl rfl).trans ?_
    exact rfl
  · refine (r_aload_n rfl rfl rfl).trans ?_
    refine (r_getR (ci := 10) (sl := 0) s_E rfl rfl rfl rfl (by decide) rfl rfl).trans ?_
    refine (r_iconst (v := 5) rfl rfl rfl).trans ?_
    refine (r_iald rfl rfl rfl (by decide) (by decide)).trans ?_
    exact r_iret rfl rfl

theorem en_X10_text {d : Nat} {E : pEv} {ro : Nat → Nat → Int32} {Q : Option Value → pH → Prop} (s_E : oE E) {x1 : Int32} : wX (d + 1) 172 [.ref 101, .int x1] (mkH E ro) Q = wX d 154 [.long x1.toInt64, .long 0, .long 1] (mkH E ro) (fun v h' => wG d 172 (7, [.ref 101, .int x1, .retAddr 0, .retAddr 0, .retAddr 0], pv v [], h') Q) := by
  refine (wX_in rfl (by decide)).trans ?_
  show wG d 172 (0, [.ref 101, .int x1, .retAddr 0, .retAddr 0, .retAddr 0], [], mkH E ro) Q = _
  refine (r_iload_n rfl rfl rfl).trans ?_
  refine (r_i2l rfl rfl).trans ?_
  refine (r_lconst (w := 0) rfl rfl rfl).trans ?_
  refine (r_lconst (w := 1) rfl rfl rfl).trans ?_
  exact r_ins (m := 154) rfl rfl rfl rfl rfl rfl

theorem sg_X10_text_7 {d : Nat} {E : pEv} {ro : Nat → Nat → Int32} {Q : Option Value → pH → Prop} (s_E : oE E) {x1 : Int32} {v2 : Value} {v3 : Value} {v4 : Value} {xs0 : Int32} : wG d 172 (7, [.ref 101, .int x1, v2, v3, v4], [.int xs0], mkH E ro) Q = (if xs0 = 0 then wX d 153 [.ref 101, .int 1] (mkH E ro) (fun v h' => wG d 172 (15, [.ref 101, .int x1, v2, v3, v4], pv v [], h') Q) else wX d 170 [.ref 101, .int 212, .int (ro 102 5), .int x1] (mkH E (uI ro 102 5 0)) (fun v h' => wG d 172 (39, [.ref 101, .int x1, .int (ro 102 5), v3, v4], pv v [], h') Q)) := by
  refine (r_if_ne rfl rfl rfl).trans ?_
  refine ite_congr rfl (fun h_0 => ?_) (fun h_0 => ?_)
  · refine (r_aload_n rfl rfl rfl).trans ?_
    refine (r_iconst (v := 1) rfl rfl rfl).trans ?_
    exact r_inv (m := 153) (c := 10) rfl rfl rfl rfl rfl rfl rfl rfl
  · refine (r_aload_n rfl rfl rfl).trans ?_
    refine (r_getR (ci := 10) (sl := 0) s_E rfl rfl rfl rfl (by decide) rfl rfl).trans ?_
    refine (r_iconst (v := 5) rfl rfl rfl).trans ?_
    refine (r_iald rfl rfl rfl (by decide) (by decide)).trans ?_
    refine (r_istore_n rfl rfl rfl rfl).trans ?_
    refine (r_aload_n rfl rfl rfl).trans ?_
    refine (r_getR (ci := 10) (sl := 0) s_E rfl rfl rfl rfl (by decide) rfl rfl).trans ?_
    refine (r_iconst (v := 5) rfl rfl rfl).trans ?_
    refine (r_iconst (v := 0) rfl rfl rfl).trans ?_
    refine (r_iast rfl rfl rfl (by decide) (by decide)).trans ?_
    refine (r_aload_n rfl rfl rfl).trans ?_
    refine (r_sipush (v := 212) rfl rfl rfl).trans ?_
    refine (r_iload_n rfl rfl rfl).trans ?_
    refine (r_iload_n rfl rfl rfl).trans ?_
    exact r_inv (m := 170) (c := 10) rfl rfl rfl rfl rfl rfl rfl rfl

theorem sg_X10_text_15 {d : Nat} {E : pEv} {ro : Nat → Nat → Int32} {Q : Option Value → pH → Prop} (s_E : oE E) {x1 : Int32} {v2 : Value} {v3 : Value} {v4 : Value} {xs0 : Int32} : wG d 172 (15, [.ref 101, .int x1, v2, v3, v4], [.int xs0], mkH E ro) Q = Q (some (.int xs0)) (mkH E ro) := by
  exact r_iret rfl rfl

theorem sg_X10_text_39 {d : Nat} {E : pEv} {ro : Nat → Nat → Int32} {Q : Option Value → pH → Prop} (s_E : oE E) {x1 : Int32} {x2 : Int32} {v3 : Value} {v4 : Value} {xs0 : Int32} (b0 : ((ro 101 7) < 0) → (¬ (90 + x1) < 0 ∧ (90 + x1).toNatClampNeg < 264)) : wG d 172 (39, [.ref 101, .int x1, .int x2, v3, v4], [.int xs0], mkH E ro) Q = (if (ro 101 7) < 0 then wG d 172 (68, [.ref 101, .int x1, .int x2, .int xs0, .int 0], [], mkH E (uI ro 102 (90 + x1).toNatClampNeg x2)) Q else Q (some (.int ((-10) - (ro 101 7)))) (mkH E ro)) := by
  refine (r_istore_n rfl rfl rfl rfl).trans ?_
  refine (r_aload_n rfl rfl rfl).trans ?_
  refine (r_getI (ci := 10) (sl := 7) rfl rfl rfl rfl (by decide)).trans ?_
  refine (r_if_lt rfl rfl rfl).trans ?_
  refine ite_congr rfl (fun h_0 => ?_) (fun h_0 => ?_)
  · refine (r_aload_n rfl rfl rfl).trans ?_
    refine (r_getR (ci := 10) (sl := 0) s_E rfl rfl rfl rfl (by decide) rfl rfl).trans ?_
    refine (r_bipush (v := 90) rfl rfl rfl).trans ?_
    refine (r_iload_n rfl rfl rfl).trans ?_
    refine (r_iadd rfl rfl).trans ?_
    refine (r_iload_n rfl rfl rfl).trans ?_
    refine (r_iast rfl rfl rfl (by decide) (b0 h_0)).trans ?_
    refine (r_iconst (v := 0) rfl rfl rfl).trans ?_
    refine (r_istore rfl rfl rfl rfl).trans ?_
    exact rfl
  · refine (r_bipush (v := (-10)) rfl rfl rfl).trans ?_
    refine (r_aload_n rfl rfl rfl).trans ?_
    refine (r_getI (ci := 10) (sl := 7) rfl rfl rfl rfl (by decide)).trans ?_
    refine (r_isub rfl rfl).trans ?_
    exact r_iret rfl rfl

theorem sg_X10_text_68 {d : Nat} {E : pEv} {ro : Nat → Nat → Int32} {Q : Option Value → pH → Prop} (s_E : oE E) {x1 : Int32} {x2 : Int32} {x3 : Int32} {x4 : Int32} (b0 : (x4 < x2) → (¬ (212 + x4) < 0 ∧ (212 + x4).toNatClampNeg < 264)) (b1 : (x4 < x2) → (¬ ((112 + (50 * x1)) + x4) < 0 ∧ ((112 + (50 * x1)) + x4).toNatClampNeg < 264)) : wG d 172 (68, [.ref 101, .int x1, .int x2, .int x3, .int x4], [], mkH E ro) Q = (if x4 < x2 then wG d 172 (68, [.ref 101, .int x1, .int x2, .int x3, .int (x4 + 1)], [], mkH E (uI ro 102 ((112 + (50 * x1)) + x4).toNatClampNeg (ro 102 (212 + x4).toNatClampNeg))) Q else Q (some (.int 1)) (mkH E ro)) := by
  refine (r_iload rfl rfl rfl).trans ?_
  refine (r_iload_n rfl rfl rfl).trans ?_
  refine (r_icmp_ge rfl rfl rfl).trans ?_
  refine ite_congr rfl (fun h_0 => ?_) (fun h_0 => ?_)
  · refine (r_aload_n rfl rfl rfl).trans ?_
    refine (r_getR (ci := 10) (sl := 0) s_E rfl rfl rfl rfl (by decide) rfl rfl).trans ?_
    refine (r_bipush (v := 112) rfl rfl rfl).trans ?_
    refine (r_bipush (v := 50) rfl rfl rfl).trans ?_
    refine (r_iload_n rfl rfl rfl).trans ?_
    refine (r_imul rfl rfl).trans ?_
    refine (r_iadd rfl rfl).trans ?_
    refine (r_iload rfl rfl rfl).trans ?_
    refine (r_iadd rfl rfl).trans ?_
    refine (r_aload_n rfl rfl rfl).trans ?_
    refine (r_getR (ci := 10) (sl := 0) s_E rfl rfl rfl rfl (by decide) rfl rfl).trans ?_
    refine (r_sipush (v := 212) rfl rfl rfl).trans ?_
    refine (r_iload rfl rfl rfl).trans ?_
    refine (r_iadd rfl rfl).trans ?_
    refine (r_iald rfl rfl rfl (by decide) (b0 h_0)).trans ?_
    refine (r_iast rfl rfl rfl (by decide) (b1 h_0)).trans ?_
    refine (r_iinc (y := 1) rfl rfl rfl rfl rfl rfl).trans ?_
    refine (r_goto rfl rfl).trans ?_
    exact rfl
  · refine (r_iconst (v := 1) rfl rfl rfl).trans ?_
    exact r_iret rfl rfl

theorem en_X10_textGives {d : Nat} {E : pEv} {ro : Nat → Nat → Int32} {Q : Option Value → pH → Prop} (s_E : oE E) {x1 : Int32} {x2 : Int32} {x3 : Int32} {x4 : Int32} (b0 : (x1 = 0) → (¬ (90 + x1) < 0 ∧ (90 + x1).toNatClampNeg < 264)) (b1 : (x1 = 0) → (0 < (ro 102 (90 + x1).toNatClampNeg)) → (¬ (90 + x1) < 0 ∧ (90 + x1).toNatClampNeg < 264)) (b2 : (¬ x1 = 0) → (¬ (90 + x1) < 0 ∧ (90 + x1).toNatClampNeg < 264)) (b3 : (¬ x1 = 0) → (0 < (ro 102 (90 + x1).toNatClampNeg)) → (¬ (90 + x1) < 0 ∧ (90 + x1).toNatClampNeg < 264)) : wX (d + 1) 173 [.ref 101, .int x1, .int x2, .int x3, .int x4] (mkH E ro) Q = (if x1 = 0 then (if 0 < (ro 102 (90 + x1).toNatClampNeg) then wX d 170 [.ref 101, .int (112 + (50 * x1)), .int ((uI (uI (uI ro 105 0 x2) 105 1 x3) 105 2 x4) 102 (90 + x1).toNatClampNeg), .int x1] (mkH E (uI (uI (uI ro 105 0 x2) 105 1 x3) 105 2 x4)) (fun v h' => wG d 173 (76, [.ref 101, .int x1, .int x2, .int x3, .int x4, .int (x2 * 10)], pv v [], h') Q) else (if x1 = 0 then wX d 155 [.int (x2 * 10), .int 0, .int 99] (mkH E ro) (fun v h' => wG d 173 (90, [.ref 101, .int x1, .int x2, .int x3, .int x4, .int (x2 * 10)], pv v [], h') Q) else wX d 155 [.int (x2 * 10), .int (-999), .int 999] (mkH E ro) (fun v h' => wG d 173 (104, [.ref 101, .int x1, .int x2, .int x3, .int x4, .int (x2 * 10)], pv v [], h') Q))) else (if 0 < (ro 102 (90 + x1).toNatClampNeg) then wX d 170 [.ref 101, .int (112 + (50 * x1)), .int ((uI (uI (uI ro 105 0 x2) 105 1 x3) 105 2 x4) 102 (90 + x1).toNatClampNeg), .int x1] (mkH E (uI (uI (uI ro 105 0 x2) 105 1 x3) 105 2 x4)) (fun v h' => wG d 173 (76, [.ref 101, .int x1, .int x2, .int x3, .int x4, .int ((100 - x2) - (x3 * 5))], pv v [], h') Q) else (if x1 = 0 then wX d 155 [.int ((100 - x2) - (x3 * 5)), .int 0, .int 99] (mkH E ro) (fun v h' => wG d 173 (90, [.ref 101, .int x1, .int x2, .int x3, .int x4, .int ((100 - x2) - (x3 * 5))], pv v [], h') Q) else wX d 155 [.int ((100 - x2) - (x3 * 5)), .int (-999), .int 999] (mkH E ro) (fun v h' => wG d 173 (104, [.ref 101, .int x1, .int x2, .int x3, .int x4, .int ((100 - x2) - (x3 * 5))], pv v [], h') Q)))) := by
  refine (wX_in rfl (by decide)).trans ?_
  show wG d 173 (0, [.ref 101, .int x1, .int x2, .int x3, .int x4, .retAddr 0], [], mkH E ro) Q = _
  refine (r_iload_n rfl rfl rfl).trans ?_
  refine (r_if_ne rfl rfl rfl).trans ?_
  refine ite_congr rfl (fun h_0 => ?_) (fun h_0 => ?_)
  · refine (r_iload_n rfl rfl rfl).trans ?_
    refine (r_bipush (v := 10) rfl rfl rfl).trans ?_
    refine (r_imul rfl rfl).trans ?_
    refine (r_goto rfl rfl).trans ?_
    refine (r_istore rfl rfl rfl rfl).trans ?_
    refine (r_aload_n rfl rfl rfl).trans ?_
    refine (r_getR (ci := 10) (sl := 0) s_E rfl rfl rfl rfl (by decide) rfl rfl).trans ?_
    refine (r_bipush (v := 90) rfl rfl rfl).trans ?_
    refine (r_iload_n rfl rfl rfl).trans ?_
    refine (r_iadd rfl rfl).trans ?_
    refine (r_iald rfl rfl rfl (by decide) (b0 h_0)).trans ?_
    refine (r_if_le rfl rfl rfl).trans ?_
    refine ite_congr rfl (fun h_1 => ?_) (fun h_1 => ?_)
    · refine (r_aload_n rfl rfl rfl).trans ?_
      refine (r_getR (ci := 10) (sl := 10) s_E rfl rfl rfl rfl (by decide) rfl rfl).trans ?_
      refine (r_iconst (v := 0) rfl rfl rfl).trans ?_
      refine (r_iload_n rfl rfl rfl).trans ?_
      refine (r_iast rfl rfl rfl (by decide) (by decide)).trans ?_
      refine (r_aload_n rfl rfl rfl).trans ?_
      refine (r_getR (ci := 10) (sl := 10) s_E rfl rfl rfl rfl (by decide) rfl rfl).trans ?_
      refine (r_iconst (v := 1) rfl rfl rfl).trans ?_
      refine (r_iload_n rfl rfl rfl).trans ?_
      refine (r_iast rfl rfl rfl (by decide) (by decide)).trans ?_
      refine (r_aload_n rfl rfl rfl).trans ?_
      refine (r_getR (ci := 10) (sl := 10) s_E rfl rfl rfl rfl (by decide) rfl rfl).trans ?_
      refine (r_iconst (v := 2) rfl rfl rfl).trans ?_
      refine (r_iload rfl rfl rfl).trans ?_
      refine (r_iast rfl rfl rfl (by decide) (by decide)).trans ?_
      refine (r_aload_n rfl rfl rfl).trans ?_
      refine (r_bipush (v := 112) rfl rfl rfl).trans ?_
      refine (r_bipush (v := 50) rfl rfl rfl).trans ?_
      refine (r_iload_n rfl rfl rfl).trans ?_
      refine (r_imul rfl rfl).trans ?_
      refine (r_iadd rfl rfl).trans ?_
      refine (r_aload_n rfl rfl rfl).trans ?_
      refine (r_getR (ci := 10) (sl := 0) s_E rfl rfl rfl rfl (by decide) rfl rfl).trans ?_
      refine (r_bipush (v := 90) rfl rfl rfl).trans ?_
      refine (r_iload_n rfl rfl rfl).trans ?_
      refine (r_iadd rfl rfl).trans ?_
      refine (r_iald rfl rfl rfl (by decide) (b1 h_0 h_1)).trans ?_
      refine (r_iload_n rfl rfl rfl).trans ?_
      exact r_inv (m := 170) (c := 10) rfl rfl rfl rfl rfl rfl rfl rfl
    · refine (r_iload_n rfl rfl rfl).trans ?_
      refine (r_if_ne rfl rfl rfl).trans ?_
      refine ite_congr rfl (fun h_2 => ?_) (fun h_2 => ?_)
      · refine (r_iload rfl rfl rfl).trans ?_
        refine (r_iconst (v := 0) rfl rfl rfl).trans ?_
        refine (r_bipush (v := 99) rfl rfl rfl).trans ?_
        exact r_ins (m := 155) rfl rfl rfl rfl rfl rfl
      · refine (r_iload rfl rfl rfl).trans ?_
        refine (r_sipush (v := (-999)) rfl rfl rfl).trans ?_
        refine (r_sipush (v := 999) rfl rfl rfl).trans ?_
        exact r_ins (m := 155) rfl rfl rfl rfl rfl rfl
  · refine (r_bipush (v := 100) rfl rfl rfl).trans ?_
    refine (r_iload_n rfl rfl rfl).trans ?_
    refine (r_isub rfl rfl).trans ?_
    refine (r_iload_n rfl rfl rfl).trans ?_
    refine (r_iconst (v := 5) rfl rfl rfl).trans ?_
    refine (r_imul rfl rfl).trans ?_
    refine (r_isub rfl rfl).trans ?_
    refine (r_istore rfl rfl rfl rfl).trans ?_
    refine (r_aload_n rfl rfl rfl).trans ?_
    refine (r_getR (ci := 10) (sl := 0) s_E rfl rfl rfl rfl (by decide) rfl rfl).trans ?_
    refine (r_bipush (v := 90) rfl rfl rfl).trans ?_
    refine (r_iload_n rfl rfl rfl).trans ?_
    refine (r_iadd rfl rfl).trans ?_
    refine (r_iald rfl rfl rfl (by decide) (b2 h_0)).trans ?_
    refine (r_if_le rfl rfl rfl).trans ?_
    refine ite_congr rfl (fun h_1 => ?_) (fun h_1 => ?_)
    · refine (r_aload_n rfl rfl rfl).trans ?_
      refine (r_getR (ci := 10) (sl := 10) s_E rfl rfl rfl rfl (by decide) rfl rfl).trans ?_
      refine (r_iconst (v := 0) rfl rfl rfl).trans ?_
      refine (r_iload_n rfl rfl rfl).trans ?_
      refine (r_iast rfl rfl rfl (by decide) (by decide)).trans ?_
      refine (r_aload_n rfl rfl rfl).trans ?_
      refine (r_getR (ci := 10) (sl := 10) s_E rfl rfl rfl rfl (by decide) rfl rfl).trans ?_
      refine (r_iconst (v := 1) rfl rfl rfl).trans ?_
      refine (r_iload_n rfl rfl rfl).trans ?_
      refine (r_iast rfl rfl rfl (by decide) (by decide)).trans ?_
      refine (r_aload_n rfl rfl rfl).trans ?_
      refine (r_getR (ci := 10) (sl := 10) s_E rfl rfl rfl rfl (by decide) rfl rfl).trans ?_
      refine (r_iconst (v := 2) rfl rfl rfl).trans ?_
      refine (r_iload rfl rfl rfl).trans ?_
      refine (r_iast rfl rfl rfl (by decide) (by decide)).trans ?_
      refine (r_aload_n rfl rfl rfl).trans ?_
      refine (r_bipush (v := 112) rfl rfl rfl).trans ?_
      refine (r_bipush (v := 50) rfl rfl rfl).trans ?_
      refine (r_iload_n rfl rfl rfl).trans ?_
      refine (r_imul rfl rfl).trans ?_
      refine (r_iadd rfl rfl).trans ?_
      refine (r_aload_n rfl rfl rfl).trans ?_
      refine (r_getR (ci := 10) (sl := 0) s_E rfl rfl rfl rfl (by decide) rfl rfl).trans ?_
      refine (r_bipush (v := 90) rfl rfl rfl).trans ?_
      refine (r_iload_n rfl rfl rfl).trans ?_
      refine (r_iadd rfl rfl).trans ?_
      refine (r_iald rfl rfl rfl (by decide) (b3 h_0 h_1)).trans ?_
      refine (r_iload_n rfl rfl rfl).trans ?_
      exact r_inv (m := 170) (c := 10) rfl rfl rfl rfl rfl rfl rfl rfl
    · refine (r_iload_n rfl rfl rfl).trans ?_
      refine (r_if_ne rfl rfl rfl).trans ?_
      refine ite_congr rfl (fun h_2 => ?_) (fun h_2 => ?_)
      · refine (r_iload rfl rfl rfl).trans ?_
        refine (r_iconst (v := 0) rfl rfl rfl).trans ?_
        refine (r_bipush (v := 99) rfl rfl rfl).trans ?_
        exact r_ins (m := 155) rfl rfl rfl rfl rfl rfl
      · refine (r_iload rfl rfl rfl).trans ?_
        refine (r_sipush (v := (-999)) rfl rfl rfl).trans ?_
        refine (r_sipush (v := 999) rfl rfl rfl).trans ?_
        exact r_ins (m := 155) rfl rfl rfl rfl rfl rfl

theorem sg_X10_textGives_76 {d : Nat} {E : pEv} {ro : Nat → Nat → Int32} {Q : Option Value → pH → Prop} (s_E : oE E) {x1 : Int32} {x2 : Int32} {x3 : Int32} {x4 : Int32} {x5 : Int32} {xs0 : Int32} : wG d 173 (76, [.ref 101, .int x1, .int x2, .int x3, .int x4, .int x5], [.int xs0], mkH E ro) Q = (if x1 = 0 then wX d 155 [.int xs0, .int 0, .int 99] (mkH E ro) (fun v h' => wG d 173 (90, [.ref 101, .int x1, .int x2, .int x3, .int x4, .int xs0], pv v [], h') Q) else wX d 155 [.int xs0, .int (-999), .int 999] (mkH E ro) (fun v h' => wG d 173 (104, [.ref 101, .int x1, .int x2, .int x3, .int x4, .int xs0], pv v [], h') Q)) := by
  refine (r_istore rfl rfl rfl rfl).trans ?_
  refine (r_iload_n rfl rfl rfl).trans ?_
  refine (r_if_ne rfl rfl rfl).trans ?_
  refine ite_congr rfl (fun h_0 => ?_) (fun h_0 => ?_)
  · refine (r_iload rfl rfl rfl).trans ?_
    refine (r_iconst (v := 0) rfl rfl rfl).trans ?_
    refine (r_bipush (v := 99) rfl rfl rfl).trans ?_
    exact r_ins (m := 155) rfl rfl rfl rfl rfl rfl
  · refine (r_iload rfl rfl rfl).trans ?_
    refine (r_sipush (v := (-999)) rfl rfl rfl).trans ?_
    refine (r_sipush (v := 999) rfl rfl rfl).trans ?_
    exact r_ins (m := 155) rfl rfl rfl rfl rfl rfl

theorem sg_X10_textGives_90 {d : Nat} {E : pEv} {ro : Nat → Nat → Int32} {Q : Option Value → pH → Prop} (s_E : oE E) {x1 : Int32} {x2 : Int32} {x3 : Int32} {x4 : Int32} {x5 : Int32} {xs0 : Int32} : wG d 173 (90, [.ref 101, .int x1, .int x2, .int x3, .int x4, .int x5], [.int xs0], mkH E ro) Q = Q (some (.int xs0)) (mkH E ro) := by
  refine (r_goto rfl rfl).trans ?_
  exact r_iret rfl rfl

theorem sg_X10_textGives_104 {d : Nat} {E : pEv} {ro : Nat → Nat → Int32} {Q : Option Value → pH → Prop} (s_E : oE E) {x1 : Int32} {x2 : Int32} {x3 : Int32} {x4 : Int32} {x5 : Int32} {xs0 : Int32} : wG d 173 (104, [.ref 101, .int x1, .int x2, .int x3, .int x4, .int x5], [.int xs0], mkH E ro) Q = Q (some (.int xs0)) (mkH E ro) := by
  exact r_iret rfl rfl

theorem en_X10_law {d : Nat} {E : pEv} {ro : Nat → Nat → Int32} {Q : Option Value → pH → Prop} (s_E : oE E) {x1 : Int32} {x2 : Int32} {x3 : Int32} {x4 : Int32} : wX (d + 1) 174 [.ref 101, .int x1, .int x2, .int x3, .int x4] (mkH E ro) Q = wX d 154 [.long x1.toInt64, .long 0, .long 1] (mkH E ro) (fun v h' => wG d 174 (7, [.ref 101, .int x1, .int x2, .int x3, .int x4], pv v [], h') Q) := by
  refine (wX_in rfl (by decide)).trans ?_
  show wG d 174 (0, [.ref 101, .int x1, .int x2, .int x3, .int x4], [], mkH E ro) Q = _
  refine (r_iload_n rfl rfl rfl).trans ?_
  refine (r_i2l rfl rfl).trans ?_
  refine (r_lconst (w := 0) rfl rfl rfl).trans ?_
  refine (r_lconst (w := 1) rfl rfl rfl).trans ?_
  exact r_ins (m := 154) rfl rfl rfl rfl rfl rfl

theorem sg_X10_law_7 {d : Nat} {E : pEv} {ro : Nat → Nat → Int32} {Q : Option Value → pH → Prop} (s_E : oE E) {x1 : Int32} {x2 : Int32} {x3 : Int32} {x4 : Int32} {xs0 : Int32} : wG d 174 (7, [.ref 101, .int x1, .int x2, .int x3, .int x4], [.int xs0], mkH E ro) Q = (if xs0 = 0 then wX d 153 [.ref 101, .int 1] (mkH E ro) (fun v h' => wG d 174 (27, [.ref 101, .int x1, .int x2, .int x3, .int x4], pv v [], h') Q) else wX d 173 [.ref 101, .int x1, .int x2, .int x3, .int x4] (mkH E ro) (fun v h' => wG d 174 (19, [.ref 101, .int x1, .int x2, .int x3, .int x4], pv v [], h') Q)) := by
  refine (r_if_eq rfl rfl rfl).trans ?_
  refine ite_congr rfl (fun h_0 => ?_) (fun h_0 => ?_)
  · refine (r_aload_n rfl rfl rfl).trans ?_
    refine (r_iconst (v := 1) rfl rfl rfl).trans ?_
    exact r_inv (m := 153) (c := 10) rfl rfl rfl rfl rfl rfl rfl rfl
  · refine (r_aload_n rfl rfl rfl).trans ?_
    refine (r_iload_n rfl rfl rfl).trans ?_
    refine (r_iload_n rfl rfl rfl).trans ?_
    refine (r_iload_n rfl rfl rfl).trans ?_
    refine (r_iload rfl rfl rfl).trans ?_
    exact r_inv (m := 173) (c := 10) rfl rfl rfl rfl rfl rfl rfl rfl

theorem sg_X10_law_19 {d : Nat} {E : pEv} {ro : Nat → Nat → Int32} {Q : Option Value → pH → Prop} (s_E : oE E) {x1 : Int32} {x2 : Int32} {x3 : Int32} {x4 : Int32} {xs0 : Int32} : wG d 174 (19, [.ref 101, .int x1, .int x2, .int x3, .int x4], [.int xs0], mkH E ro) Q = Q (some (.int xs0)) (mkH E ro) := by
  refine (r_goto rfl rfl).trans ?_
  exact r_iret rfl rfl

theorem sg_X10_law_27 {d : Nat} {E : pEv} {ro : Nat → Nat → Int32} {Q : Option Value → pH → Prop} (s_E : oE E) {x1 : Int32} {x2 : Int32} {x3 : Int32} {x4 : Int32} {xs0 : Int32} : wG d 174 (27, [.ref 101, .int x1, .int x2, .int x3, .int x4], [.int xs0], mkH E ro) Q = Q (some (.int xs0)) (mkH E ro) := by
  exact r_iret rfl rfl

theorem en_X10_above {d : Nat} {E : pEv} {ro : Nat → Nat → Int32} {Q : Option Value → pH → Prop} (s_E : oE E) {x0 : Int32} : wX (d + 1) 175 [.int x0] (mkH E ro) Q = (if x0 < 4 then Q (some (.int 0)) (mkH E ro) else Q (some (.int (x0 - 3))) (mkH E ro)) := by
  refine (wX_in rfl (by decide)).trans ?_
  show wG d 175 (0, [.int x0], [], mkH E ro) Q = _
  refine (r_iload_n rfl rfl rfl).trans ?_
  refine (r_iconst (v := 4) rfl rfl rfl).trans ?_
  refine (r_icmp_ge rfl rfl rfl).trans ?_
  refine ite_congr rfl (fun h_0 => ?_) (fun h_0 => ?_)
  · refine (r_iconst (v := 0) rfl rfl rfl).trans ?_
    refine (r_goto rfl rfl).trans ?_
    exact r_iret rfl rfl
  · refine (r_iload_n rfl rfl rfl).trans ?_
    refine (r_iconst (v := 3) rfl rfl rfl).trans ?_
    refine (r_isub rfl rfl).trans ?_
    exact r_iret rfl rfl

theorem en_X10_happens {d : Nat} {E : pEv} {ro : Nat → Nat → Int32} {Q : Option Value → pH → Prop} (s_E : oE E) {x1 : Int32} {x2 : Int32} : wX (d + 1) 176 [.ref 101, .int x1, .int x2] (mkH E ro) Q = wX d 157 [.ref 101, .int x1, .int 2] (mkH E ro) (fun v h' => wG d 176 (6, [.ref 101, .int x1, .int x2, .retAddr 0, .retAddr 0, .retAddr 0, .retAddr 0], pv v [], h') Q) := by
  refine (wX_in rfl (by decide)).trans ?_
  show wG d 176 (0, [.ref 101, .int x1, .int x2, .retAddr 0, .retAddr 0, .retAddr 0, .retAddr 0], [], mkH E ro) Q = _
  refine (r_aload_n rfl rfl rfl).trans ?_
  refine (r_iload_n rfl rfl rfl).trans ?_
  refine (r_iconst (v := 2) rfl rfl rfl).trans ?_
  exact r_inv (m := 157) (c := 10) rfl rfl rfl rfl rfl rfl rfl rfl

theorem sg_X10_happens_6 {d : Nat} {E : pEv} {ro : Nat → Nat → Int32} {Q : Option Value → pH → Prop} (s_E : oE E) {x1 : Int32} {x2 : Int32} {v3 : Value} {v4 : Value} {v5 : Value} {v6 : Value} {xs0 : Int32} : wG d 176 (6, [.ref 101, .int x1, .int x2, v3, v4, v5, v6], [.int xs0], mkH E ro) Q = (if xs0 = 0 then wX d 157 [.ref 101, .int x1, .int 8] (mkH E ro) (fun v h' => wG d 176 (18, [.ref 101, .int x1, .int x2, .int xs0, v4, v5, v6], pv v [], h') Q) else wX d 159 [.int xs0] (mkH E ro) (fun v h' => wG d 176 (32, [.ref 101, .int x1, .int x2, .int xs0, v4, v5, v6], pv v [], h') Q)) := by
  refine (r_istore_n rfl rfl rfl rfl).trans ?_
  refine (r_iload_n rfl rfl rfl).trans ?_
  refine (r_if_ne rfl rfl rfl).trans ?_
  refine ite_congr rfl (fun h_0 => ?_) (fun h_0 => ?_)
  · refine (r_aload_n rfl rfl rfl).trans ?_
    refine (r_iload_n rfl rfl rfl).trans ?_
    refine (r_bipush (v := 8) rfl rfl rfl).trans ?_
    exact r_inv (m := 157) (c := 10) rfl rfl rfl rfl rfl rfl rfl rfl
  · refine (r_iload_n rfl rfl rfl).trans ?_
    exact r_ins (m := 159) rfl rfl rfl rfl rfl rfl

theorem sg_X10_happens_18 {d : Nat} {E : pEv} {ro : Nat → Nat → Int32} {Q : Option Value → pH → Prop} (s_E : oE E) {x1 : Int32} {x2 : Int32} {x3 : Int32} {v4 : Value} {v5 : Value} {v6 : Value} {xs0 : Int32} : wG d 176 (18, [.ref 101, .int x1, .int x2, .int x3, v4, v5, v6], [.int xs0], mkH E ro) Q = (if xs0 = 1 then Q (some (.int 1)) (mkH E ro) else Q (some (.int 0)) (mkH E ro)) := by
  refine (r_iconst (v := 1) rfl rfl rfl).trans ?_
  refine (r_icmp_ne rfl rfl rfl).trans ?_
  refine ite_congr rfl (fun h_0 => ?_) (fun h_0 => ?_)
  · refine (r_iconst (v := 1) rfl rfl rfl).trans ?_
    refine (r_goto rfl rfl).trans ?_
    exact r_zret rfl rfl rfl
  · refine (r_iconst (v := 0) rfl rfl rfl).trans ?_
    exact r_zret rfl rfl rfl

theorem sg_X10_happens_32 {d : Nat} {E : pEv} {ro : Nat → Nat → Int32} {Q : Option Value → pH → Prop} (s_E : oE E) {x1 : Int32} {x2 : Int32} {x3 : Int32} {v4 : Value} {v5 : Value} {v6 : Value} {xs0 : Int32} : wG d 176 (32, [.ref 101, .int x1, .int x2, .int x3, v4, v5, v6], [.int xs0], mkH E ro) Q = wX d 159 [.int (x3 &&& x2)] (mkH E ro) (fun v h' => wG d 176 (40, [.ref 101, .int x1, .int x2, .int x3, .int xs0, v5, v6], pv v [], h') Q) := by
  refine (r_istore rfl rfl rfl rfl).trans ?_
  refine (r_iload_n rfl rfl rfl).trans ?_
  refine (r_iload_n rfl rfl rfl).trans ?_
  refine (r_iand rfl rfl).trans ?_
  exact r_ins (m := 159) rfl rfl rfl rfl rfl rfl

theorem sg_X10_happens_40 {d : Nat} {E : pEv} {ro : Nat → Nat → Int32} {Q : Option Value → pH → Prop} (s_E : oE E) {x1 : Int32} {x2 : Int32} {x3 : Int32} {x4 : Int32} {v5 : Value} {v6 : Value} {xs0 : Int32} : wG d 176 (40, [.ref 101, .int x1, .int x2, .int x3, .int x4, v5, v6], [.int xs0], mkH E ro) Q = wX d 157 [.ref 101, .int x1, .int 1] (mkH E ro) (fun v h' => wG d 176 (48, [.ref 101, .int x1, .int x2, .int x3, .int x4, .int xs0, v6], pv v [], h') Q) := by
  refine (r_istore rfl rfl rfl rfl).trans ?_
  refine (r_aload_n rfl rfl rfl).trans ?_
  refine (r_iload_n rfl rfl rfl).trans ?_
  refine (r_iconst (v := 1) rfl rfl rfl).trans ?_
  exact r_inv (m := 157) (c := 10) rfl rfl rfl rfl rfl rfl rfl rfl

theorem sg_X10_happens_48 {d : Nat} {E : pEv} {ro : Nat → Nat → Int32} {Q : Option Value → pH → Prop} (s_E : oE E) {x1 : Int32} {x2 : Int32} {x3 : Int32} {x4 : Int32} {x5 : Int32} {v6 : Value} {xs0 : Int32} : wG d 176 (48, [.ref 101, .int x1, .int x2, .int x3, .int x4, .int x5, v6], [.int xs0], mkH E ro) Q = wX d 157 [.ref 101, .int x1, .int 0] (mkH E ro) (fun v h' => wG d 176 (56, [.ref 101, .int x1, .int x2, .int x3, .int x4, .int x5, .int xs0], pv v [], h') Q) := by
  refine (r_istore rfl rfl rfl rfl).trans ?_
  refine (r_aload_n rfl rfl rfl).trans ?_
  refine (r_iload_n rfl rfl rfl).trans ?_
  refine (r_iconst (v := 0) rfl rfl rfl).trans ?_
  exact r_inv (m := 157) (c := 10) rfl rfl rfl rfl rfl rfl rfl rfl

theorem sg_X10_happens_56 {d : Nat} {E : pEv} {ro : Nat → Nat → Int32} {Q : Option Value → pH → Prop} (s_E : oE E) {x1 : Int32} {x2 : Int32} {x3 : Int32} {x4 : Int32} {x5 : Int32} {x6 : Int32} {xs0 : Int32} : wG d 176 (56, [.ref 101, .int x1, .int x2, .int x3, .int x4, .int x5, .int x6], [.int xs0], mkH E ro) Q = (if xs0 = 1 then (if 0 < x5 then Q (some (.int 1)) (mkH E ro) else Q (some (.int 0)) (mkH E ro)) else (if xs0 = 2 then (if (x5 - x5 / 2 * 2) = 1 then Q (some (.int 1)) (mkH E ro) else Q (some (.int 0)) (mkH E ro)) else (if xs0 = 3 then (if x5 < x4 then Q (some (.int 1)) (mkH E ro) else Q (some (.int 0)) (mkH E ro)) else (if xs0 = 4 then (if x5 < (1 + (x6 - x6 / 3 * 3)) then Q (some (.int 0)) (mkH E ro) else Q (some (.int 1)) (mkH E ro)) else (if xs0 = 5 then (if (x5 - x5 / 2 * 2) = (1 - (x6 - x6 / 2 * 2)) then Q (some (.int 1)) (mkH E ro) else Q (some (.int 0)) (mkH E ro)) else (if xs0 = 6 then (if 4 < x6 then Q (some (.int 1)) (mkH E ro) else (if x5 < x4 then Q (some (.int 1)) (mkH E ro) else Q (some (.int 0)) (mkH E ro))) else (if x5 = x4 then Q (some (.int 1)) (mkH E ro) else Q (some (.int 0)) (mkH E ro)))))))) := by
  refine (r_sw (i := (133, 1, 6)) rfl rfl).trans ?_
  refine (r_swc (y := 1) rfl).trans ?_
  refine ite_congr rfl (fun h_0 => ?_) (fun h_0 => ?_)
  · refine (r_iload rfl rfl rfl).trans ?_
    refine (r_if_le rfl rfl rfl).trans ?_
    refine ite_congr rfl (fun h_1 => ?_) (fun h_1 => ?_)
    · refine (r_iconst (v := 1) rfl rfl rfl).trans ?_
      refine (r_goto rfl rfl).trans ?_
      exact r_zret rfl rfl rfl
    · refine (r_iconst (v := 0) rfl rfl rfl).trans ?_
      exact r_zret rfl rfl rfl
  · refine (r_swc (y := 2) rfl).trans ?_
    refine ite_congr rfl (fun h_1 => ?_) (fun h_1 => ?_)
    · refine (r_iload rfl rfl rfl).trans ?_
      refine (r_iconst (v := 2) rfl rfl rfl).trans ?_
      refine (r_irem rfl rfl (by decide)).trans ?_
      refine (r_iconst (v := 1) rfl rfl rfl).trans ?_
      refine (r_icmp_ne rfl rfl rfl).trans ?_
      refine ite_congr rfl (fun h_2 => ?_) (fun h_2 => ?_)
      · refine (r_iconst (v := 1) rfl rfl rfl).trans ?_
        refine (r_goto rfl rfl).trans ?_
        exact r_zret rfl rfl rfl
      · refine (r_iconst (v := 0) rfl rfl rfl).trans ?_
        exact r_zret rfl rfl rfl
    · refine (r_swc (y := 3) rfl).trans ?_
      refine ite_congr rfl (fun h_2 => ?_) (fun h_2 => ?_)
      · refine (r_iload rfl rfl rfl).trans ?_
        refine (r_iload rfl rfl rfl).trans ?_
        refine (r_icmp_ge rfl rfl rfl).trans ?_
        refine ite_congr rfl (fun h_3 => ?_) (fun h_3 => ?_)
        · refine (r_iconst (v := 1) rfl rfl rfl).trans ?_
          refine (r_goto rfl rfl).trans ?_
          exact r_zret rfl rfl rfl
        · refine (r_iconst (v := 0) rfl rfl rfl).trans ?_
          exact r_zret rfl rfl rfl
      · refine (r_swc (y := 4) rfl).trans ?_
        refine ite_congr rfl (fun h_3 => ?_) (fun h_3 => ?_)
        · refine (r_iload rfl rfl rfl).trans ?_
          refine (r_iconst (v := 1) rfl rfl rfl).trans ?_
          refine (r_iload rfl rfl rfl).trans ?_
          refine (r_iconst (v := 3) rfl rfl rfl).trans ?_
          refine (r_irem rfl rfl (by decide)).trans ?_
          refine (r_iadd rfl rfl).trans ?_
          refine (r_icmp_lt rfl rfl rfl).trans ?_
          refine ite_congr rfl (fun h_4 => ?_) (fun h_4 => ?_)
          · refine (r_iconst (v := 0) rfl rfl rfl).trans ?_
            exact r_zret rfl rfl rfl
          · refine (r_iconst (v := 1) rfl rfl rfl).trans ?_
            refine (r_goto rfl rfl).trans ?_
            exact r_zret rfl rfl rfl
        · refine (r_swc (y := 5) rfl).trans ?_
          refine ite_congr rfl (fun h_4 => ?_) (fun h_4 => ?_)
          · refine (r_iload rfl rfl rfl).trans ?_
            refine (r_iconst (v := 2) rfl rfl rfl).trans ?_
            refine (r_irem rfl rfl (by decide)).trans ?_
            refine (r_iconst (v := 1) rfl rfl rfl).trans ?_
            refine (r_iload rfl rfl rfl).trans ?_
            refine (r_iconst (v := 2) rfl rfl rfl).trans ?_
            refine (r_irem rfl rfl (by decide)).trans ?_
            refine (r_isub rfl rfl).trans ?_
            refine (r_icmp_ne rfl rfl rfl).trans ?_
            refine ite_congr rfl (fun h_5 => ?_) (fun h_5 => ?_)
            · refine (r_iconst (v := 1) rfl rfl rfl).trans ?_
              refine (r_goto rfl rfl).trans ?_
              exact r_zret rfl rfl rfl
            · refine (r_iconst (v := 0) rfl rfl rfl).trans ?_
              exact r_zret rfl rfl rfl
          · refine (r_swc (y := 6) rfl).trans ?_
            refine ite_congr rfl (fun h_5 => ?_) (fun h_5 => ?_)
            · refine (r_iload rfl rfl rfl).trans ?_
              refine (r_iconst (v := 4) rfl rfl rfl).trans ?_
              refine (r_icmp_gt rfl rfl rfl).trans ?_
              refine ite_congr rfl (fun h_6 => ?_) (fun h_6 => ?_)
              · refine (r_iconst (v := 1) rfl rfl rfl).trans ?_
                refine (r_goto rfl rfl).trans ?_
                exact r_zret rfl rfl rfl
              · refine (r_iload rfl rfl rfl).trans ?_
                refine (r_iload rfl rfl rfl).trans ?_
                refine (r_icmp_ge rfl rfl rfl).trans ?_
                refine ite_congr rfl (fun h_7 => ?_) (fun h_7 => ?_)
                · refine (r_iconst (v := 1) rfl rfl rfl).trans ?_
                  refine (r_goto rfl rfl).trans ?_
                  exact r_zret rfl rfl rfl
                · refine (r_iconst (v := 0) rfl rfl rfl).trans ?_
                  exact r_zret rfl rfl rfl
            · refine r_swn.trans ?_
              refine (r_iload rfl rfl rfl).trans ?_
              refine (r_iload rfl rfl rfl).trans ?_
              refine (r_icmp_ne rfl rfl rfl).trans ?_
              refine ite_congr rfl (fun h_6 => ?_) (fun h_6 => ?_)
              · refine (r_iconst (v := 1) rfl rfl rfl).trans ?_
                refine (r_goto rfl rfl).trans ?_
                exact r_zret rfl rfl rfl
              · refine (r_iconst (v := 0) rfl rfl rfl).trans ?_
                exact r_zret rfl rfl rfl

theorem en_X10_allComing {d : Nat} {E : pEv} {ro : Nat → Nat → Int32} {Q : Option Value → pH → Prop} (s_E : oE E) : wX (d + 1) 177 [.ref 101] (mkH E ro) Q = wG d 177 (4, [.ref 101, .int 0, .int 0], [], mkH E ro) Q := by
  refine (wX_in rfl (by decide)).trans ?_
  show wG d 177 (0, [.ref 101, .retAddr 0, .retAddr 0], [], mkH E ro) Q = _
  refine (r_iconst (v := 0) rfl rfl rfl).trans ?_
  refine (r_istore_n rfl rfl rfl rfl).trans ?_
  refine (r_iconst (v := 0) rfl rfl rfl).trans ?_
  refine (r_istore_n rfl rfl rfl rfl).trans ?_
  exact rfl

theorem sg_X10_allComing_4 {d : Nat} {E : pEv} {ro : Nat → Nat → Int32} {Q : Option Value → pH → Prop} (s_E : oE E) {x1 : Int32} {x2 : Int32} : wG d 177 (4, [.ref 101, .int x1, .int x2], [], mkH E ro) Q = (if x2 < (ro 102 0) then wX d 176 [.ref 101, .int x2, .int x1] (mkH E ro) (fun v h' => wG d 177 (21, [.ref 101, .int x1, .int x2], pv v [.int x1], h') Q) else Q (some (.int x1)) (mkH E ro)) := by
  refine (r_iload_n rfl rfl rfl).trans ?_
  refine (r_aload_n rfl rfl rfl).trans ?_
  refine (r_getR (ci := 10) (sl := 0) s_E rfl rfl rfl rfl (by decide) rfl rfl).trans ?_
  refine (r_iconst (v := 0) rfl rfl rfl).trans ?_
  refine (r_iald rfl rfl rfl (by decide) (by decide)).trans ?_
  refine (r_icmp_ge rfl rfl rfl).trans ?_
  refine ite_congr rfl (fun h_0 => ?_) (fun h_0 => ?_)
  · refine (r_iload_n rfl rfl rfl).trans ?_
    refine (r_aload_n rfl rfl rfl).trans ?_
    refine (r_iload_n rfl rfl rfl).trans ?_
    refine (r_iload_n rfl rfl rfl).trans ?_
    exact r_inv (m := 176) (c := 10) rfl rfl rfl rfl rfl rfl rfl rfl
  · refine (r_iload_n rfl rfl rfl).trans ?_
    exact r_iret rfl rfl

theorem sg_X10_allComing_21 {d : Nat} {E : pEv} {ro : Nat → Nat → Int32} {Q : Option Value → pH → Prop} (s_E : oE E) {x1 : Int32} {x2 : Int32} {xs0 : Int32} {xs1 : Int32} : wG d 177 (21, [.ref 101, .int x1, .int x2], [.int xs1, .int xs0], mkH E ro) Q = (if xs1 = 0 then wG d 177 (4, [.ref 101, .int (xs0 ||| 0), .int (x2 + 1)], [], mkH E ro) Q else wG d 177 (4, [.ref 101, .int (xs0 ||| ((1 : Int32) <<< (x2 &&& 31))), .int (x2 + 1)], [], mkH E ro) Q) := by
  refine (r_if_eq rfl rfl rfl).trans ?_
  refine ite_congr rfl (fun h_0 => ?_) (fun h_0 => ?_)
  · refine (r_iconst (v := 0) rfl rfl rfl).trans ?_
    refine (r_ior rfl rfl).trans ?_
    refine (r_istore_n rfl rfl rfl rfl).trans ?_
    refine (r_iinc (y := 1) rfl rfl rfl rfl rfl rfl).trans ?_
    refine (r_goto rfl rfl).trans ?_
    exact rfl
  · refine (r_iconst (v := 1) rfl rfl rfl).trans ?_
    refine (r_iload_n rfl rfl rfl).trans ?_
    refine (r_ishl rfl rfl).trans ?_
    refine (r_goto rfl rfl).trans ?_
    refine (r_ior rfl rfl).trans ?_
    refine (r_istore_n rfl rfl rfl rfl).trans ?_
    refine (r_iinc (y := 1) rfl rfl rfl rfl rfl rfl).trans ?_
    refine (r_goto rfl rfl).trans ?_
    exact rfl

theorem en_X10_shock {d : Nat} {E : pEv} {ro : Nat → Nat → Int32} {Q : Option Value → pH → Prop} (s_E : oE E) {x1 : Int32} : wX (d + 1) 178 [.ref 101, .int x1] (mkH E ro) Q = wX d 157 [.ref 101, .int x1, .int 1] (mkH E ro) (fun v h' => wG d 178 (6, [.ref 101, .int x1, .retAddr 0], pv v [], h') Q) := by
  refine (wX_in rfl (by decide)).trans ?_
  show wG d 178 (0, [.ref 101, .int x1, .retAddr 0], [], mkH E ro) Q = _
  refine (r_aload_n rfl rfl rfl).trans ?_
  refine (r_iload_n rfl rfl rfl).trans ?_
  refine (r_iconst (v := 1) rfl rfl rfl).trans ?_
  exact r_inv (m := 157) (c := 10) rfl rfl rfl rfl rfl rfl rfl rfl

theorem sg_X10_shock_6 {d : Nat} {E : pEv} {ro : Nat → Nat → Int32} {Q : Option Value → pH → Prop} (s_E : oE E) {x1 : Int32} {v2 : Value} {xs0 : Int32} : wG d 178 (6, [.ref 101, .int x1, v2], [.int xs0], mkH E ro) Q = wX d 157 [.ref 101, .int x1, .int 0] (mkH E ro) (fun v h' => wG d 178 (13, [.ref 101, .int x1, .int xs0], pv v [], h') Q) := by
  refine (r_istore_n rfl rfl rfl rfl).trans ?_
  refine (r_aload_n rfl rfl rfl).trans ?_
  refine (r_iload_n rfl rfl rfl).trans ?_
  refine (r_iconst (v := 0) rfl rfl rfl).trans ?_
  exact r_inv (m := 157) (c := 10) rfl rfl rfl rfl rfl rfl rfl rfl

theorem sg_X10_shock_13 {d : Nat} {E : pEv} {ro : Nat → Nat → Int32} {Q : Option Value → pH → Prop} (s_E : oE E) {x1 : Int32} {x2 : Int32} {xs0 : Int32} : wG d 178 (13, [.ref 101, .int x1, .int x2], [.int xs0], mkH E ro) Q = (if xs0 = 2 then Q (some (.int x2)) (mkH E ro) else (if xs0 = 3 then Q (some (.int 5)) (mkH E ro) else (if xs0 = 4 then Q (some (.int 0)) (mkH E ro) else (if xs0 = 5 then Q (some (.int x2)) (mkH E ro) else (if xs0 = 6 then Q (some (.int (5 + x2))) (mkH E ro) else Q (some (.int 0)) (mkH E ro)))))) := by
  refine (r_sw (i := (43, 2, 6)) rfl rfl).trans ?_
  refine (r_swc (y := 2) rfl).trans ?_
  refine ite_congr rfl (fun h_0 => ?_) (fun h_0 => ?_)
  · refine (r_iload_n rfl rfl rfl).trans ?_
    exact r_iret rfl rfl
  · refine (r_swc (y := 3) rfl).trans ?_
    refine ite_congr rfl (fun h_1 => ?_) (fun h_1 => ?_)
    · refine (r_iconst (v := 5) rfl rfl rfl).trans ?_
      exact r_iret rfl rfl
    · refine (r_swc (y := 4) rfl).trans ?_
      refine ite_congr rfl (fun h_2 => ?_) (fun h_2 => ?_)
      · refine (r_iconst (v := 0) rfl rfl rfl).trans ?_
        exact r_iret rfl rfl
      · refine (r_swc (y := 5) rfl).trans ?_
        refine ite_congr rfl (fun h_3 => ?_) (fun h_3 => ?_)
        · refine (r_iload_n rfl rfl rfl).trans ?_
          exact r_iret rfl rfl
        · refine (r_swc (y := 6) rfl).trans ?_
          refine ite_congr rfl (fun h_4 => ?_) (fun h_4 => ?_)
          · refine (r_iconst (v := 5) rfl rfl rfl).trans ?_
            refine (r_iload_n rfl rfl rfl).trans ?_
            refine (r_iadd rfl rfl).trans ?_
            exact r_iret rfl rfl
          · refine r_swn.trans ?_
            refine (r_iconst (v := 0) rfl rfl rfl).trans ?_
            exact r_iret rfl rfl

theorem en_X10_kills {d : Nat} {E : pEv} {ro : Nat → Nat → Int32} {Q : Option Value → pH → Prop} (s_E : oE E) {x1 : Int32} {x2 : Int32} : wX (d + 1) 179 [.ref 101, .int x1, .int x2] (mkH E ro) Q = wX d 157 [.ref 101, .int x1, .int 0] (mkH E ro) (fun v h' => wG d 179 (6, [.ref 101, .int x1, .int x2, .retAddr 0, .retAddr 0], pv v [], h') Q) := by
  refine (wX_in rfl (by decide)).trans ?_
  show wG d 179 (0, [.ref 101, .int x1, .int x2, .retAddr 0, .retAddr 0], [], mkH E ro) Q = _
  refine (r_aload_n rfl rfl rfl).trans ?_
  refine (r_iload_n rfl rfl rfl).trans ?_
  refine (r_iconst (v := 0) rfl rfl rfl).trans ?_
  exact r_inv (m := 157) (c := 10) rfl rfl rfl rfl rfl rfl rfl rfl

theorem sg_X10_kills_6 {d : Nat} {E : pEv} {ro : Nat → Nat → Int32} {Q : Option Value → pH → Prop} (s_E : oE E) {x1 : Int32} {x2 : Int32} {v3 : Value} {v4 : Value} {xs0 : Int32} : wG d 179 (6, [.ref 101, .int x1, .int x2, v3, v4], [.int xs0], mkH E ro) Q = (if xs0 = 3 then (if ((x2 >>> (x1 &&& 31)) &&& 1) = 0 then Q (some (.int (-1))) (mkH E ro) else wG d 179 (31, [.ref 101, .int x1, .int x2, .int xs0, .int 0], [], mkH E ro) Q) else (if xs0 = 6 then (if ((x2 >>> (x1 &&& 31)) &&& 1) = 0 then Q (some (.int (-1))) (mkH E ro) else wG d 179 (31, [.ref 101, .int x1, .int x2, .int xs0, .int 0], [], mkH E ro) Q) else Q (some (.int (-1))) (mkH E ro))) := by
  refine (r_istore_n rfl rfl rfl rfl).trans ?_
  refine (r_iload_n rfl rfl rfl).trans ?_
  refine (r_iconst (v := 3) rfl rfl rfl).trans ?_
  refine (r_icmp_eq rfl rfl rfl).trans ?_
  refine ite_congr rfl (fun h_0 => ?_) (fun h_0 => ?_)
  · refine (r_iload_n rfl rfl rfl).trans ?_
    refine (r_iload_n rfl rfl rfl).trans ?_
    refine (r_ishr rfl rfl).trans ?_
    refine (r_iconst (v := 1) rfl rfl rfl).trans ?_
    refine (r_iand rfl rfl).trans ?_
    refine (r_if_ne rfl rfl rfl).trans ?_
    refine ite_congr rfl (fun h_1 => ?_) (fun h_1 => ?_)
    · refine (r_iconst (v := (-1)) rfl rfl rfl).trans ?_
      exact r_iret rfl rfl
    · refine (r_iconst (v := 0) rfl rfl rfl).trans ?_
      refine (r_istore rfl rfl rfl rfl).trans ?_
      exact rfl
  · refine (r_iload_n rfl rfl rfl).trans ?_
    refine (r_bipush (v := 6) rfl rfl rfl).trans ?_
    refine (r_icmp_ne rfl rfl rfl).trans ?_
    refine ite_congr rfl (fun h_1 => ?_) (fun h_1 => ?_)
    · refine (r_iload_n rfl rfl rfl).trans ?_
      refine (r_iload_n rfl rfl rfl).trans ?_
      refine (r_ishr rfl rfl).trans ?_
      refine (r_iconst (v := 1) rfl rfl rfl).trans ?_
      refine (r_iand rfl rfl).trans ?_
      refine (r_if_ne rfl rfl rfl).trans ?_
      refine ite_congr rfl (fun h_2 => ?_) (fun h_2 => ?_)
      · refine (r_iconst (v := (-1)) rfl rfl rfl).trans ?_
        exact r_iret rfl rfl
      · refine (r_iconst (v := 0) rfl rfl rfl).trans ?_
        refine (r_istore rfl rfl rfl rfl).trans ?_
        exact rfl
    · refine (r_iconst (v := (-1)) rfl rfl rfl).trans ?_
      exact r_iret rfl rfl

theorem sg_X10_kills_31 {d : Nat} {E : pEv} {ro : Nat → Nat → Int32} {Q : Option Value → pH → Prop} (s_E : oE E) {x1 : Int32} {x2 : Int32} {x3 : Int32} {x4 : Int32} : wG d 179 (31, [.ref 101, .int x1, .int x2, .int x3, .int x4], [], mkH E ro) Q = (if x4 < 6 then wX d 157 [.ref 101, .int x1, .int 4] (mkH E ro) (fun v h' => wG d 179 (44, [.ref 101, .int x1, .int x2, .int x3, .int x4], pv v [], h') Q) else Q (some (.int (-1))) (mkH E ro)) := by
  refine (r_iload rfl rfl rfl).trans ?_
  refine (r_bipush (v := 6) rfl rfl rfl).trans ?_
  refine (r_icmp_ge rfl rfl rfl).trans ?_
  refine ite_congr rfl (fun h_0 => ?_) (fun h_0 => ?_)
  · refine (r_aload_n rfl rfl rfl).trans ?_
    refine (r_iload_n rfl rfl rfl).trans ?_
    refine (r_iconst (v := 4) rfl rfl rfl).trans ?_
    exact r_inv (m := 157) (c := 10) rfl rfl rfl rfl rfl rfl rfl rfl
  · refine (r_iconst (v := (-1)) rfl rfl rfl).trans ?_
    exact r_iret rfl rfl

theorem sg_X10_kills_44 {d : Nat} {E : pEv} {ro : Nat → Nat → Int32} {Q : Option Value → pH → Prop} (s_E : oE E) {x1 : Int32} {x2 : Int32} {x3 : Int32} {x4 : Int32} {xs0 : Int32} : wG d 179 (44, [.ref 101, .int x1, .int x2, .int x3, .int x4], [.int xs0], mkH E ro) Q = (if ((xs0 >>> (x4 &&& 31)) &&& 1) = 1 then Q (some (.int x4)) (mkH E ro) else wG d 179 (31, [.ref 101, .int x1, .int x2, .int x3, .int (x4 + 1)], [], mkH E ro) Q) := by
  refine (r_iload rfl rfl rfl).trans ?_
  refine (r_ishr rfl rfl).trans ?_
  refine (r_iconst (v := 1) rfl rfl rfl).trans ?_
  refine (r_iand rfl rfl).trans ?_
  refine (r_iconst (v := 1) rfl rfl rfl).trans ?_
  refine (r_icmp_ne rfl rfl rfl).trans ?_
  refine ite_congr rfl (fun h_0 => ?_) (fun h_0 => ?_)
  · refine (r_iload rfl rfl rfl).trans ?_
    exact r_iret rfl rfl
  · refine (r_iinc (y := 1) rfl rfl rfl rfl rfl rfl).trans ?_
    refine (r_goto rfl rfl).trans ?_
    exact rfl

theorem en_X10_isBroken {d : Nat} {E : pEv} {ro : Nat → Nat → Int32} {Q : Option Value → pH → Prop} (s_E : oE E) {x1 : Int32} : wX (d + 1) 180 [.ref 101, .int x1] (mkH E ro) Q = wX d 177 [.ref 101] (mkH E ro) (fun v h' => wG d 180 (4, [.ref 101, .int x1, .retAddr 0, .retAddr 0, .retAddr 0], pv v [], h') Q) := by
  refine (wX_in rfl (by decide)).trans ?_
  show wG d 180 (0, [.ref 101, .int x1, .retAddr 0, .retAddr 0, .retAddr 0], [], mkH E ro) Q = _
  refine (r_aload_n rfl rfl rfl).trans ?_
  exact r_inv (m := 177) (c := 10) rfl rfl rfl rfl rfl rfl rfl rfl

theorem sg_X10_isBroken_4 {d : Nat} {E : pEv} {ro : Nat → Nat → Int32} {Q : Option Value → pH → Prop} (s_E : oE E) {x1 : Int32} {v2 : Value} {v3 : Value} {v4 : Value} {xs0 : Int32} : wG d 180 (4, [.ref 101, .int x1, v2, v3, v4], [.int xs0], mkH E ro) Q = wG d 180 (7, [.ref 101, .int x1, .int xs0, .int 0, v4], [], mkH E ro) Q := by
  refine (r_istore_n rfl rfl rfl rfl).trans ?_
  refine (r_iconst (v := 0) rfl rfl rfl).trans ?_
  refine (r_istore_n rfl rfl rfl rfl).trans ?_
  exact rfl

theorem sg_X10_isBroken_7 {d : Nat} {E : pEv} {ro : Nat → Nat → Int32} {Q : Option Value → pH → Prop} (s_E : oE E) {x1 : Int32} {x2 : Int32} {x3 : Int32} {v4 : Value} : wG d 180 (7, [.ref 101, .int x1, .int x2, .int x3, v4], [], mkH E ro) Q = (if x3 < x1 then wX d 179 [.ref 101, .int x3, .int x2] (mkH E ro) (fun v h' => wG d 180 (18, [.ref 101, .int x1, .int x2, .int x3, v4], pv v [], h') Q) else Q (some (.int 0)) (mkH E ro)) := by
  refine (r_iload_n rfl rfl rfl).trans ?_
  refine (r_iload_n rfl rfl rfl).trans ?_
  refine (r_icmp_ge rfl rfl rfl).trans ?_
  refine ite_congr rfl (fun h_0 => ?_) (fun h_0 => ?_)
  · refine (r_aload_n rfl rfl rfl).trans ?_
    refine (r_iload_n rfl rfl rfl).trans ?_
    refine (r_iload_n rfl rfl rfl).trans ?_
    exact r_inv (m := 179) (c := 10) rfl rfl rfl rfl rfl rfl rfl rfl
  · refine (r_iconst (v := 0) rfl rfl rfl).trans ?_
    exact r_zret rfl rfl rfl

theorem sg_X10_isBroken_18 {d : Nat} {E : pEv} {ro : Nat → Nat → Int32} {Q : Option Value → pH → Prop} (s_E : oE E) {x1 : Int32} {x2 : Int32} {x3 : Int32} {v4 : Value} {xs0 : Int32} : wG d 180 (18, [.ref 101, .int x1, .int x2, .int x3, v4], [.int xs0], mkH E ro) Q = (if xs0 < 0 then wG d 180 (7, [.ref 101, .int x1, .int x2, .int (x3 + 1), .int xs0], [], mkH E ro) Q else wX d 157 [.ref 101, .int x1, .int 4] (mkH E ro) (fun v h' => wG d 180 (31, [.ref 101, .int x1, .int x2, .int x3, .int xs0], pv v [], h') Q)) := by
  refine (r_istore rfl rfl rfl rfl).trans ?_
  refine (r_iload rfl rfl rfl).trans ?_
  refine (r_if_lt rfl rfl rfl).trans ?_
  refine ite_congr rfl (fun h_0 => ?_) (fun h_0 => ?_)
  · refine (r_iinc (y := 1) rfl rfl rfl rfl rfl rfl).trans ?_
    refine (r_goto rfl rfl).trans ?_
    exact rfl
  · refine (r_aload_n rfl rfl rfl).trans ?_
    refine (r_iload_n rfl rfl rfl).trans ?_
    refine (r_iconst (v := 4) rfl rfl rfl).trans ?_
    exact r_inv (m := 157) (c := 10) rfl rfl rfl rfl rfl rfl rfl rfl

theorem sg_X10_isBroken_31 {d : Nat} {E : pEv} {ro : Nat → Nat → Int32} {Q : Option Value → pH → Prop} (s_E : oE E) {x1 : Int32} {x2 : Int32} {x3 : Int32} {x4 : Int32} {xs0 : Int32} : wG d 180 (31, [.ref 101, .int x1, .int x2, .int x3, .int x4], [.int xs0], mkH E ro) Q = (if ((xs0 >>> (x4 &&& 31)) &&& 1) = 1 then Q (some (.int 1)) (mkH E ro) else wG d 180 (7, [.ref 101, .int x1, .int x2, .int (x3 + 1), .int x4], [], mkH E ro) Q) := by
  refine (r_iload rfl rfl rfl).trans ?_
  refine (r_ishr rfl rfl).trans ?_
  refine (r_iconst (v := 1) rfl rfl rfl).trans ?_
  refine (r_iand rfl rfl).trans ?_
  refine (r_iconst (v := 1) rfl rfl rfl).trans ?_
  refine (r_icmp_ne rfl rfl rfl).trans ?_
  refine ite_congr rfl (fun h_0 => ?_) (fun h_0 => ?_)
  · refine (r_iconst (v := 1) rfl rfl rfl).trans ?_
    exact r_zret rfl rfl rfl
  · refine (r_iinc (y := 1) rfl rfl rfl rfl rfl rfl).trans ?_
    refine (r_goto rfl rfl).trans ?_
    exact rfl

theorem en_X10_scene {d : Nat} {E : pEv} {ro : Nat → Nat → Int32} {Q : Option Value → pH → Prop} (s_E : oE E) {x1 : Int32} {x2 : Int32} {x3 : Int32} {x4 : Int32} : wX (d + 1) 181 [.ref 101, .int x1, .int x2, .int x3, .int x4] (mkH E ro) Q = wX d 154 [.long x1.toInt64, .long 0, .long 69] (mkH E ro) (fun v h' => wG d 181 (9, [.ref 101, .int x1, .int x2, .int x3, .int x4, .retAddr 0, .retAddr 0], pv v [], h') Q) := by
  refine (wX_in rfl (by decide)).trans ?_
  show wG d 181 (0, [.ref 101, .int x1, .int x2, .int x3, .int x4, .retAddr 0, .retAddr 0], [], mkH E ro) Q = _
  refine (r_iload_n rfl rfl rfl).trans ?_
  refine (r_i2l rfl rfl).trans ?_
  refine (r_lconst (w := 0) rfl rfl rfl).trans ?_
  refine (r_ldc2_w (w := 69) rfl rfl rfl).trans ?_
  exact r_ins (m := 154) rfl rfl rfl rfl rfl rfl

theorem sg_X10_scene_9 {d : Nat} {E : pEv} {ro : Nat → Nat → Int32} {Q : Option Value → pH → Prop} (s_E : oE E) {x1 : Int32} {x2 : Int32} {x3 : Int32} {x4 : Int32} {v5 : Value} {v6 : Value} {xs0 : Int32} : wG d 181 (9, [.ref 101, .int x1, .int x2, .int x3, .int x4, v5, v6], [.int xs0], mkH E ro) Q = (if xs0 = 0 then wX d 153 [.ref 101, .int 1] (mkH E ro) (fun v h' => wG d 181 (62, [.ref 101, .int x1, .int x2, .int x3, .int x4, v5, v6], pv v [], h') Q) else wX d 154 [.long x2.toInt64, .long 0, .long ((((1 : Int32) <<< ((ro 102 0) &&& 31)) - 1).toInt64)] (mkH E ro) (fun v h' => wG d 181 (29, [.ref 101, .int x1, .int x2, .int x3, .int x4, v5, v6], pv v [], h') Q)) := by
  refine (r_if_eq rfl rfl rfl).trans ?_
  refine ite_congr rfl (fun h_0 => ?_) (fun h_0 => ?_)
  · refine (r_aload_n rfl rfl rfl).trans ?_
    refine (r_iconst (v := 1) rfl rfl rfl).trans ?_
    exact r_inv (m := 153) (c := 10) rfl rfl rfl rfl rfl rfl rfl rfl
  · refine (r_iload_n rfl rfl rfl).trans ?_
    refine (r_i2l rfl rfl).trans ?_
    refine (r_lconst (w := 0) rfl rfl rfl).trans ?_
    refine (r_iconst (v := 1) rfl rfl rfl).trans ?_
    refine (r_aload_n rfl rfl rfl).trans ?_
    refine (r_getR (ci := 10) (sl := 0) s_E rfl rfl rfl rfl (by decide) rfl rfl).trans ?_
    refine (r_iconst (v := 0) rfl rfl rfl).trans ?_
    refine (r_iald rfl rfl rfl (by decide) (by decide)).trans ?_
    refine (r_ishl rfl rfl).trans ?_
    refine (r_iconst (v := 1) rfl rfl rfl).trans ?_
    refine (r_isub rfl rfl).trans ?_
    refine (r_i2l rfl rfl).trans ?_
    exact r_ins (m := 154) rfl rfl rfl rfl rfl rfl

theorem sg_X10_scene_29 {d : Nat} {E : pEv} {ro : Nat → Nat → Int32} {Q : Option Value → pH → Prop} (s_E : oE E) {x1 : Int32} {x2 : Int32} {x3 : Int32} {x4 : Int32} {v5 : Value} {v6 : Value} {xs0 : Int32} : wG d 181 (29, [.ref 101, .int x1, .int x2, .int x3, .int x4, v5, v6], [.int xs0], mkH E ro) Q = (if xs0 = 0 then wX d 153 [.ref 101, .int 1] (mkH E ro) (fun v h' => wG d 181 (62, [.ref 101, .int x1, .int x2, .int x3, .int x4, v5, v6], pv v [], h') Q) else wX d 154 [.long x3.toInt64, .long 1, .long 30] (mkH E ro) (fun v h' => wG d 181 (41, [.ref 101, .int x1, .int x2, .int x3, .int x4, v5, v6], pv v [], h') Q)) := by
  refine (r_if_eq rfl rfl rfl).trans ?_
  refine ite_congr rfl (fun h_0 => ?_) (fun h_0 => ?_)
  · refine (r_aload_n rfl rfl rfl).trans ?_
    refine (r_iconst (v := 1) rfl rfl rfl).trans ?_
    exact r_inv (m := 153) (c := 10) rfl rfl rfl rfl rfl rfl rfl rfl
  · refine (r_iload_n rfl rfl rfl).trans ?_
    refine (r_i2l rfl rfl).trans ?_
    refine (r_lconst (w := 1) rfl rfl rfl).trans ?_
    refine (r_ldc2_w (w := 30) rfl rfl rfl).trans ?_
    exact r_ins (m := 154) rfl rfl rfl rfl rfl rfl

theorem sg_X10_scene_41 {d : Nat} {E : pEv} {ro : Nat → Nat → Int32} {Q : Option Value → pH → Prop} (s_E : oE E) {x1 : Int32} {x2 : Int32} {x3 : Int32} {x4 : Int32} {v5 : Value} {v6 : Value} {xs0 : Int32} : wG d 181 (41, [.ref 101, .int x1, .int x2, .int x3, .int x4, v5, v6], [.int xs0], mkH E ro) Q = (if xs0 = 0 then wX d 153 [.ref 101, .int 1] (mkH E ro) (fun v h' => wG d 181 (62, [.ref 101, .int x1, .int x2, .int x3, .int x4, v5, v6], pv v [], h') Q) else wX d 154 [.long x4.toInt64, .long 0, .long 63] (mkH E ro) (fun v h' => wG d 181 (54, [.ref 101, .int x1, .int x2, .int x3, .int x4, v5, v6], pv v [], h') Q)) := by
  refine (r_if_eq rfl rfl rfl).trans ?_
  refine ite_congr rfl (fun h_0 => ?_) (fun h_0 => ?_)
  · refine (r_aload_n rfl rfl rfl).trans ?_
    refine (r_iconst (v := 1) rfl rfl rfl).trans ?_
    exact r_inv (m := 153) (c := 10) rfl rfl rfl rfl rfl rfl rfl rfl
  · refine (r_iload rfl rfl rfl).trans ?_
    refine (r_i2l rfl rfl).trans ?_
    refine (r_lconst (w := 0) rfl rfl rfl).trans ?_
    refine (r_ldc2_w (w := 63) rfl rfl rfl).trans ?_
    exact r_ins (m := 154) rfl rfl rfl rfl rfl rfl

theorem sg_X10_scene_54 {d : Nat} {E : pEv} {ro : Nat → Nat → Int32} {Q : Option Value → pH → Prop} (s_E : oE E) {x1 : Int32} {x2 : Int32} {x3 : Int32} {x4 : Int32} {v5 : Value} {v6 : Value} {xs0 : Int32} : wG d 181 (54, [.ref 101, .int x1, .int x2, .int x3, .int x4, v5, v6], [.int xs0], mkH E ro) Q = (if xs0 = 0 then wX d 153 [.ref 101, .int 1] (mkH E ro) (fun v h' => wG d 181 (62, [.ref 101, .int x1, .int x2, .int x3, .int x4, v5, v6], pv v [], h') Q) else (if (ro 102 0) = 7 then wX d 153 [.ref 101, .int 4] (mkH E ro) (fun v h' => wG d 181 (79, [.ref 101, .int x1, .int x2, .int x3, .int x4, v5, v6], pv v [], h') Q) else wG d 181 (92, [.ref 101, .int x1, .int x2, .int x3, .int x4, .int (ro 102 0), .int (ro 102 0)], [], mkH E ro) Q)) := by
  refine (r_if_ne rfl rfl rfl).trans ?_
  refine ite_congr rfl (fun h_0 => ?_) (fun h_0 => ?_)
  · refine (r_aload_n rfl rfl rfl).trans ?_
    refine (r_iconst (v := 1) rfl rfl rfl).trans ?_
    exact r_inv (m := 153) (c := 10) rfl rfl rfl rfl rfl rfl rfl rfl
  · refine (r_aload_n rfl rfl rfl).trans ?_
    refine (r_getR (ci := 10) (sl := 0) s_E rfl rfl rfl rfl (by decide) rfl rfl).trans ?_
    refine (r_iconst (v := 0) rfl rfl rfl).trans ?_
    refine (r_iald rfl rfl rfl (by decide) (by decide)).trans ?_
    refine (r_bipush (v := 7) rfl rfl rfl).trans ?_
    refine (r_icmp_ne rfl rfl rfl).trans ?_
    refine ite_congr rfl (fun h_1 => ?_) (fun h_1 => ?_)
    · refine (r_aload_n rfl rfl rfl).trans ?_
      refine (r_iconst (v := 4) rfl rfl rfl).trans ?_
      exact r_inv (m := 153) (c := 10) rfl rfl rfl rfl rfl rfl rfl rfl
    · refine (r_aload_n rfl rfl rfl).trans ?_
      refine (r_getR (ci := 10) (sl := 0) s_E rfl rfl rfl rfl (by decide) rfl rfl).trans ?_
      refine (r_iconst (v := 0) rfl rfl rfl).trans ?_
      refine (r_iald rfl rfl rfl (by decide) (by decide)).trans ?_
      refine (r_istore rfl rfl rfl rfl).trans ?_
      refine (r_iload rfl rfl rfl).trans ?_
      refine (r_istore rfl rfl rfl rfl).trans ?_
      exact rfl

theorem sg_X10_scene_62 {d : Nat} {E : pEv} {ro : Nat → Nat → Int32} {Q : Option Value → pH → Prop} (s_E : oE E) {x1 : Int32} {x2 : Int32} {x3 : Int32} {x4 : Int32} {v5 : Value} {v6 : Value} {xs0 : Int32} : wG d 181 (62, [.ref 101, .int x1, .int x2, .int x3, .int x4, v5, v6], [.int xs0], mkH E ro) Q = Q (some (.int xs0)) (mkH E ro) := by
  exact r_iret rfl rfl

theorem sg_X10_scene_79 {d : Nat} {E : pEv} {ro : Nat → Nat → Int32} {Q : Option Value → pH → Prop} (s_E : oE E) {x1 : Int32} {x2 : Int32} {x3 : Int32} {x4 : Int32} {v5 : Value} {v6 : Value} {xs0 : Int32} : wG d 181 (79, [.ref 101, .int x1, .int x2, .int x3, .int x4, v5, v6], [.int xs0], mkH E ro) Q = Q (some (.int xs0)) (mkH E ro) := by
  exact r_iret rfl rfl

theorem sg_X10_scene_92 {d : Nat} {E : pEv} {ro : Nat → Nat → Int32} {Q : Option Value → pH → Prop} (s_E : oE E) {x1 : Int32} {x2 : Int32} {x3 : Int32} {x4 : Int32} {x5 : Int32} {x6 : Int32} (b0 : (0 < x6) → (¬ ((80 + x6) - 1) < 0 ∧ ((80 + x6) - 1).toNatClampNeg < 264)) (b1 : (0 < x6) → (¬ (80 + x6) < 0 ∧ (80 + x6).toNatClampNeg < 264)) : wG d 181 (92, [.ref 101, .int x1, .int x2, .int x3, .int x4, .int x5, .int x6], [], mkH E ro) Q = (if 0 < x6 then wG d 181 (92, [.ref 101, .int x1, .int x2, .int x3, .int x4, .int x5, .int (x6 + (-1))], [], mkH E (uI ro 102 (80 + x6).toNatClampNeg (ro 102 ((80 + x6) - 1).toNatClampNeg))) Q else wX d 158 [.ref 101, .int x5, .int 0, .int (x1 / 10)] (mkH E (uI (uI ro 102 80 x5) 102 0 (((uI ro 102 80 x5) 102 0) + 1))) (fun v h' => wG d 181 (155, [.ref 101, .int x1, .int x2, .int x3, .int x4, .int x5, .int x6], pv v [], h') Q)) := by
  refine (r_iload rfl rfl rfl).trans ?_
  refine (r_if_le rfl rfl rfl).trans ?_
  refine ite_congr rfl (fun h_0 => ?_) (fun h_0 => ?_)
  · refine (r_aload_n rfl rfl rfl).trans ?_
    refine (r_getR (ci := 10) (sl := 0) s_E rfl rfl rfl rfl (by decide) rfl rfl).trans ?_
    refine (r_bipush (v := 80) rfl rfl rfl).trans ?_
    refine (r_iload rfl rfl rfl).trans ?_
    refine (r_iadd rfl rfl).trans ?_
    refine (r_aload_n rfl rfl rfl).trans ?_
    refine (r_getR (ci := 10) (sl := 0) s_E rfl rfl rfl rfl (by decide) rfl rfl).trans ?_
    refine (r_bipush (v := 80) rfl rfl rfl).trans ?_
    refine (r_iload rfl rfl rfl).trans ?_
    refine (r_iadd rfl rfl).trans ?_
    refine (r_iconst (v := 1) rfl rfl rfl).trans ?_
    refine (r_isub rfl rfl).trans ?_
    refine (r_iald rfl rfl rfl (by decide) (b0 h_0)).trans ?_
    refine (r_iast rfl rfl rfl (by decide) (b1 h_0)).trans ?_
    refine (r_iinc (y := (-1)) rfl rfl rfl rfl rfl rfl).trans ?_
    refine (r_goto rfl rfl).trans ?_
    exact rfl
  · refine (r_aload_n rfl rfl rfl).trans ?_
    refine (r_getR (ci := 10) (sl := 0) s_E rfl rfl rfl rfl (by decide) rfl rfl).trans ?_
    refine (r_bipush (v := 80) rfl rfl rfl).trans ?_
    refine (r_iload rfl rfl rfl).trans ?_
    refine (r_iast rfl rfl rfl (by decide) (by decide)).trans ?_
    refine (r_aload_n rfl rfl rfl).trans ?_
    refine (r_getR (ci := 10) (sl := 0) s_E rfl rfl rfl rfl (by decide) rfl rfl).trans ?_
    refine (r_iconst (v := 0) rfl rfl rfl).trans ?_
    refine (r_dup2 rfl rfl).trans ?_
    refine (r_iald rfl rfl rfl (by decide) (by decide)).trans ?_
    refine (r_iconst (v := 1) rfl rfl rfl).trans ?_
    refine (r_iadd rfl rfl).trans ?_
    refine (r_iast rfl rfl rfl (by decide) (by decide)).trans ?_
    refine (r_aload_n rfl rfl rfl).trans ?_
    refine (r_iload rfl rfl rfl).trans ?_
    refine (r_iconst (v := 0) rfl rfl rfl).trans ?_
    refine (r_iload_n rfl rfl rfl).trans ?_
    refine (r_bipush (v := 10) rfl rfl rfl).trans ?_
    refine (r_idiv rfl rfl (by decide)).trans ?_
    exact r_inv (m := 158) (c := 10) rfl rfl rfl rfl rfl rfl rfl rfl

theorem sg_X10_scene_155 {d : Nat} {E : pEv} {ro : Nat → Nat → Int32} {Q : Option Value → pH → Prop} (s_E : oE E) {x1 : Int32} {x2 : Int32} {x3 : Int32} {x4 : Int32} {x5 : Int32} {x6 : Int32} : wG d 181 (155, [.ref 101, .int x1, .int x2, .int x3, .int x4, .int x5, .int x6], [], mkH E ro) Q = wX d 158 [.ref 101, .int x5, .int 1, .int (x1 - x1 / 10 * 10)] (mkH E ro) (fun v h' => wG d 181 (166, [.ref 101, .int x1, .int x2, .int x3, .int x4, .int x5, .int x6], pv v [], h') Q) := by
  refine (r_aload_n rfl rfl rfl).trans ?_
  refine (r_iload rfl rfl rfl).trans ?_
  refine (r_iconst (v := 1) rfl rfl rfl).trans ?_
  refine (r_iload_n rfl rfl rfl).trans ?_
  refine (r_bipush (v := 10) rfl rfl rfl).trans ?_
  refine (r_irem rfl rfl (by decide)).trans ?_
  exact r_inv (m := 158) (c := 10) rfl rfl rfl rfl rfl rfl rfl rfl

theorem sg_X10_scene_166 {d : Nat} {E : pEv} {ro : Nat → Nat → Int32} {Q : Option Value → pH → Prop} (s_E : oE E) {x1 : Int32} {x2 : Int32} {x3 : Int32} {x4 : Int32} {x5 : Int32} {x6 : Int32} : wG d 181 (166, [.ref 101, .int x1, .int x2, .int x3, .int x4, .int x5, .int x6], [], mkH E ro) Q = wX d 158 [.ref 101, .int x5, .int 2, .int x2] (mkH E ro) (fun v h' => wG d 181 (174, [.ref 101, .int x1, .int x2, .int x3, .int x4, .int x5, .int x6], pv v [], h') Q) := by
  refine (r_aload_n rfl rfl rfl).trans ?_
  refine (r_iload rfl rfl rfl).trans ?_
  refine (r_iconst (v := 2) rfl rfl rfl).trans ?_
  refine (r_iload_n rfl rfl rfl).trans ?_
  exact r_inv (m := 158) (c := 10) rfl rfl rfl rfl rfl rfl rfl rfl

theorem sg_X10_scene_174 {d : Nat} {E : pEv} {ro : Nat → Nat → Int32} {Q : Option Value → pH → Prop} (s_E : oE E) {x1 : Int32} {x2 : Int32} {x3 : Int32} {x4 : Int32} {x5 : Int32} {x6 : Int32} : wG d 181 (174, [.ref 101, .int x1, .int x2, .int x3, .int x4, .int x5, .int x6], [], mkH E ro) Q = wX d 158 [.ref 101, .int x5, .int 3, .int x3] (mkH E ro) (fun v h' => wG d 181 (182, [.ref 101, .int x1, .int x2, .int x3, .int x4, .int x5, .int x6], pv v [], h') Q) := by
  refine (r_aload_n rfl rfl rfl).trans ?_
  refine (r_iload rfl rfl rfl).trans ?_
  refine (r_iconst (v := 3) rfl rfl rfl).trans ?_
  refine (r_iload_n rfl rfl rfl).trans ?_
  exact r_inv (m := 158) (c := 10) rfl rfl rfl rfl rfl rfl rfl rfl

theorem sg_X10_scene_182 {d : Nat} {E : pEv} {ro : Nat → Nat → Int32} {Q : Option Value → pH → Prop} (s_E : oE E) {x1 : Int32} {x2 : Int32} {x3 : Int32} {x4 : Int32} {x5 : Int32} {x6 : Int32} : wG d 181 (182, [.ref 101, .int x1, .int x2, .int x3, .int x4, .int x5, .int x6], [], mkH E ro) Q = wX d 158 [.ref 101, .int x5, .int 4, .int x4] (mkH E ro) (fun v h' => wG d 181 (191, [.ref 101, .int x1, .int x2, .int x3, .int x4, .int x5, .int x6], pv v [], h') Q) := by
  refine (r_aload_n rfl rfl rfl).trans ?_
  refine (r_iload rfl rfl rfl).trans ?_
  refine (r_iconst (v := 4) rfl rfl rfl).trans ?_
  refine (r_iload rfl rfl rfl).trans ?_
  exact r_inv (m := 158) (c := 10) rfl rfl rfl rfl rfl rfl rfl rfl

theorem sg_X10_scene_191 {d : Nat} {E : pEv} {ro : Nat → Nat → Int32} {Q : Option Value → pH → Prop} (s_E : oE E) {x1 : Int32} {x2 : Int32} {x3 : Int32} {x4 : Int32} {x5 : Int32} {x6 : Int32} : wG d 181 (191, [.ref 101, .int x1, .int x2, .int x3, .int x4, .int x5, .int x6], [], mkH E ro) Q = wX d 158 [.ref 101, .int x5, .int 5, .int 4] (mkH E ro) (fun v h' => wG d 181 (199, [.ref 101, .int x1, .int x2, .int x3, .int x4, .int x5, .int x6], pv v [], h') Q) := by
  refine (r_aload_n rfl rfl rfl).trans ?_
  refine (r_iload rfl rfl rfl).trans ?_
  refine (r_iconst (v := 5) rfl rfl rfl).trans ?_
  refine (r_iconst (v := 4) rfl rfl rfl).trans ?_
  exact r_inv (m := 158) (c := 10) rfl rfl rfl rfl rfl rfl rfl rfl

theorem sg_X10_scene_199 {d : Nat} {E : pEv} {ro : Nat → Nat → Int32} {Q : Option Value → pH → Prop} (s_E : oE E) {x1 : Int32} {x2 : Int32} {x3 : Int32} {x4 : Int32} {x5 : Int32} {x6 : Int32} : wG d 181 (199, [.ref 101, .int x1, .int x2, .int x3, .int x4, .int x5, .int x6], [], mkH E ro) Q = wX d 158 [.ref 101, .int x5, .int 6, .int 0] (mkH E ro) (fun v h' => wG d 181 (208, [.ref 101, .int x1, .int x2, .int x3, .int x4, .int x5, .int x6], pv v [], h') Q) := by
  refine (r_aload_n rfl rfl rfl).trans ?_
  refine (r_iload rfl rfl rfl).trans ?_
  refine (r_bipush (v := 6) rfl rfl rfl).trans ?_
  refine (r_iconst (v := 0) rfl rfl rfl).trans ?_
  exact r_inv (m := 158) (c := 10) rfl rfl rfl rfl rfl rfl rfl rfl

theorem sg_X10_scene_208 {d : Nat} {E : pEv} {ro : Nat → Nat → Int32} {Q : Option Value → pH → Prop} (s_E : oE E) {x1 : Int32} {x2 : Int32} {x3 : Int32} {x4 : Int32} {x5 : Int32} {x6 : Int32} : wG d 181 (208, [.ref 101, .int x1, .int x2, .int x3, .int x4, .int x5, .int x6], [], mkH E ro) Q = wX d 158 [.ref 101, .int x5, .int 7, .int 0] (mkH E ro) (fun v h' => wG d 181 (217, [.ref 101, .int x1, .int x2, .int x3, .int x4, .int x5, .int x6], pv v [], h') Q) := by
  refine (r_aload_n rfl rfl rfl).trans ?_
  refine (r_iload rfl rfl rfl).trans ?_
  refine (r_bipush (v := 7) rfl rfl rfl).trans ?_
  refine (r_iconst (v := 0) rfl rfl rfl).trans ?_
  exact r_inv (m := 158) (c := 10) rfl rfl rfl rfl rfl rfl rfl rfl

theorem sg_X10_scene_217 {d : Nat} {E : pEv} {ro : Nat → Nat → Int32} {Q : Option Value → pH → Prop} (s_E : oE E) {x1 : Int32} {x2 : Int32} {x3 : Int32} {x4 : Int32} {x5 : Int32} {x6 : Int32} : wG d 181 (217, [.ref 101, .int x1, .int x2, .int x3, .int x4, .int x5, .int x6], [], mkH E ro) Q = wX d 158 [.ref 101, .int x5, .int 8, .int 1] (mkH E ro) (fun v h' => wG d 181 (226, [.ref 101, .int x1, .int x2, .int x3, .int x4, .int x5, .int x6], pv v [], h') Q) := by
  refine (r_aload_n rfl rfl rfl).trans ?_
  refine (r_iload rfl rfl rfl).trans ?_
  refine (r_bipush (v := 8) rfl rfl rfl).trans ?_
  refine (r_iconst (v := 1) rfl rfl rfl).trans ?_
  exact r_inv (m := 158) (c := 10) rfl rfl rfl rfl rfl rfl rfl rfl

theorem sg_X10_scene_226 {d : Nat} {E : pEv} {ro : Nat → Nat → Int32} {Q : Option Value → pH → Prop} (s_E : oE E) {x1 : Int32} {x2 : Int32} {x3 : Int32} {x4 : Int32} {x5 : Int32} {x6 : Int32} : wG d 181 (226, [.ref 101, .int x1, .int x2, .int x3, .int x4, .int x5, .int x6], [], mkH E ro) Q = Q (some (.int x5)) (mkH E ro) := by
  refine (r_iload rfl rfl rfl).trans ?_
  exact r_iret rfl rfl

theorem en_X10_prop {d : Nat} {E : pEv} {ro : Nat → Nat → Int32} {Q : Option Value → pH → Prop} (s_E : oE E) {x1 : Int32} {x2 : Int32} {x3 : Int32} {x4 : Int32} : wX (d + 1) 182 [.ref 101, .int x1, .int x2, .int x3, .int x4] (mkH E ro) Q = wX d 156 [.ref 101, .int x1] (mkH E ro) (fun v h' => wG d 182 (5, [.ref 101, .int x1, .int x2, .int x3, .int x4, .retAddr 0], pv v [], h') Q) := by
  refine (wX_in rfl (by decide)).trans ?_
  show wG d 182 (0, [.ref 101, .int x1, .int x2, .int x3, .int x4, .retAddr 0], [], mkH E ro) Q = _
  refine (r_aload_n rfl rfl rfl).trans ?_
  refine (r_iload_n rfl rfl rfl).trans ?_
  exact r_inv (m := 156) (c := 10) rfl rfl rfl rfl rfl rfl rfl rfl

theorem sg_X10_prop_5 {d : Nat} {E : pEv} {ro : Nat → Nat → Int32} {Q : Option Value → pH → Prop} (s_E : oE E) {x1 : Int32} {x2 : Int32} {x3 : Int32} {x4 : Int32} {v5 : Value} {xs0 : Int32} : wG d 182 (5, [.ref 101, .int x1, .int x2, .int x3, .int x4, v5], [.int xs0], mkH E ro) Q = (if xs0 = 0 then wX d 153 [.ref 101, .int 1] (mkH E ro) (fun v h' => wG d 182 (67, [.ref 101, .int x1, .int x2, .int x3, .int x4, .int 0], pv v [], h') Q) else wX d 154 [.long x2.toInt64, .long 0, .long 4] (mkH E ro) (fun v h' => wG d 182 (17, [.ref 101, .int x1, .int x2, .int x3, .int x4, v5], pv v [], h') Q)) := by
  refine (r_if_eq rfl rfl rfl).trans ?_
  refine ite_congr rfl (fun h_0 => ?_) (fun h_0 => ?_)
  · refine (r_iconst (v := 0) rfl rfl rfl).trans ?_
    refine (r_istore rfl rfl rfl rfl).trans ?_
    refine (r_iload rfl rfl rfl).trans ?_
    refine (r_if_eq rfl rfl rfl).trans ?_
    refine (if_pos (by decide)).trans ?_
    refine (r_aload_n rfl rfl rfl).trans ?_
    refine (r_iconst (v := 1) rfl rfl rfl).trans ?_
    exact r_inv (m := 153) (c := 10) rfl rfl rfl rfl rfl rfl rfl rfl
  · refine (r_iload_n rfl rfl rfl).trans ?_
    refine (r_i2l rfl rfl).trans ?_
    refine (r_lconst (w := 0) rfl rfl rfl).trans ?_
    refine (r_ldc2_w (w := 4) rfl rfl rfl).trans ?_
    exact r_ins (m := 154) rfl rfl rfl rfl rfl rfl

theorem sg_X10_prop_17 {d : Nat} {E : pEv} {ro : Nat → Nat → Int32} {Q : Option Value → pH → Prop} (s_E : oE E) {x1 : Int32} {x2 : Int32} {x3 : Int32} {x4 : Int32} {v5 : Value} {xs0 : Int32} : wG d 182 (17, [.ref 101, .int x1, .int x2, .int x3, .int x4, v5], [.int xs0], mkH E ro) Q = (if xs0 = 0 then wX d 153 [.ref 101, .int 1] (mkH E ro) (fun v h' => wG d 182 (67, [.ref 101, .int x1, .int x2, .int x3, .int x4, .int 0], pv v [], h') Q) else (if x2 < 4 then wX d 154 [.long x3.toInt64, .long 0, .long 5] (mkH E ro) (fun v h' => wG d 182 (46, [.ref 101, .int x1, .int x2, .int x3, .int x4, .int 1], pv v [], h') Q) else wX d 158 [.ref 101, .int x1, .int 5, .int x2] (mkH E ro) (fun v h' => wG d 182 (75, [.ref 101, .int x1, .int x2, .int x3, .int x4, .int 1], pv v [], h') Q))) := by
  refine (r_if_eq rfl rfl rfl).trans ?_
  refine ite_congr rfl (fun h_0 => ?_) (fun h_0 => ?_)
  · refine (r_iconst (v := 0) rfl rfl rfl).trans ?_
    refine (r_istore rfl rfl rfl rfl).trans ?_
    refine (r_iload rfl rfl rfl).trans ?_
    refine (r_if_eq rfl rfl rfl).trans ?_
    refine (if_pos (by decide)).trans ?_
    refine (r_aload_n rfl rfl rfl).trans ?_
    refine (r_iconst (v := 1) rfl rfl rfl).trans ?_
    exact r_inv (m := 153) (c := 10) rfl rfl rfl rfl rfl rfl rfl rfl
  · refine (r_iconst (v := 1) rfl rfl rfl).trans ?_
    refine (r_goto rfl rfl).trans ?_
    refine (r_istore rfl rfl rfl rfl).trans ?_
    refine (r_iload rfl rfl rfl).trans ?_
    refine (r_if_eq rfl rfl rfl).trans ?_
    refine (if_neg (by decide)).trans ?_
    refine (r_iload_n rfl rfl rfl).trans ?_
    refine (r_iconst (v := 4) rfl rfl rfl).trans ?_
    refine (r_icmp_ge rfl rfl rfl).trans ?_
    refine ite_congr rfl (fun h_1 => ?_) (fun h_1 => ?_)
    · refine (r_iload_n rfl rfl rfl).trans ?_
      refine (r_i2l rfl rfl).trans ?_
      refine (r_lconst (w := 0) rfl rfl rfl).trans ?_
      refine (r_ldc2_w (w := 5) rfl rfl rfl).trans ?_
      exact r_ins (m := 154) rfl rfl rfl rfl rfl rfl
    · refine (r_aload_n rfl rfl rfl).trans ?_
      refine (r_iload_n rfl rfl rfl).trans ?_
      refine (r_iconst (v := 5) rfl rfl rfl).trans ?_
      refine (r_iload_n rfl rfl rfl).trans ?_
      exact r_inv (m := 158) (c := 10) rfl rfl rfl rfl rfl rfl rfl rfl

theorem sg_X10_prop_46 {d : Nat} {E : pEv} {ro : Nat → Nat → Int32} {Q : Option Value → pH → Prop} (s_E : oE E) {x1 : Int32} {x2 : Int32} {x3 : Int32} {x4 : Int32} {x5 : Int32} {xs0 : Int32} : wG d 182 (46, [.ref 101, .int x1, .int x2, .int x3, .int x4, .int x5], [.int xs0], mkH E ro) Q = (if xs0 = 0 then wX d 153 [.ref 101, .int 1] (mkH E ro) (fun v h' => wG d 182 (67, [.ref 101, .int x1, .int x2, .int x3, .int x4, .int x5], pv v [], h') Q) else wX d 154 [.long x4.toInt64, .long 0, .long 5] (mkH E ro) (fun v h' => wG d 182 (59, [.ref 101, .int x1, .int x2, .int x3, .int x4, .int x5], pv v [], h') Q)) := by
  refine (r_if_eq rfl rfl rfl).trans ?_
  refine ite_congr rfl (fun h_0 => ?_) (fun h_0 => ?_)
  · refine (r_aload_n rfl rfl rfl).trans ?_
    refine (r_iconst (v := 1) rfl rfl rfl).trans ?_
    exact r_inv (m := 153) (c := 10) rfl rfl rfl rfl rfl rfl rfl rfl
  · refine (r_iload rfl rfl rfl).trans ?_
    refine (r_i2l rfl rfl).trans ?_
    refine (r_lconst (w := 0) rfl rfl rfl).trans ?_
    refine (r_ldc2_w (w := 5) rfl rfl rfl).trans ?_
    exact r_ins (m := 154) rfl rfl rfl rfl rfl rfl

theorem sg_X10_prop_59 {d : Nat} {E : pEv} {ro : Nat → Nat → Int32} {Q : Option Value → pH → Prop} (s_E : oE E) {x1 : Int32} {x2 : Int32} {x3 : Int32} {x4 : Int32} {x5 : Int32} {xs0 : Int32} : wG d 182 (59, [.ref 101, .int x1, .int x2, .int x3, .int x4, .int x5], [.int xs0], mkH E ro) Q = (if xs0 = 0 then wX d 153 [.ref 101, .int 1] (mkH E ro) (fun v h' => wG d 182 (67, [.ref 101, .int x1, .int x2, .int x3, .int x4, .int x5], pv v [], h') Q) else wX d 158 [.ref 101, .int x1, .int 5, .int x2] (mkH E ro) (fun v h' => wG d 182 (75, [.ref 101, .int x1, .int x2, .int x3, .int x4, .int x5], pv v [], h') Q)) := by
  refine (r_if_ne rfl rfl rfl).trans ?_
  refine ite_congr rfl (fun h_0 => ?_) (fun h_0 => ?_)
  · refine (r_aload_n rfl rfl rfl).trans ?_
    refine (r_iconst (v := 1) rfl rfl rfl).trans ?_
    exact r_inv (m := 153) (c := 10) rfl rfl rfl rfl rfl rfl rfl rfl
  · refine (r_aload_n rfl rfl rfl).trans ?_
    refine (r_iload_n rfl rfl rfl).trans ?_
    refine (r_iconst (v := 5) rfl rfl rfl).trans ?_
    refine (r_iload_n rfl rfl rfl).trans ?_
    exact r_inv (m := 158) (c := 10) rfl rfl rfl rfl rfl rfl rfl rfl

theorem sg_X10_prop_67 {d : Nat} {E : pEv} {ro : Nat → Nat → Int32} {Q : Option Value → pH → Prop} (s_E : oE E) {x1 : Int32} {x2 : Int32} {x3 : Int32} {x4 : Int32} {x5 : Int32} {xs0 : Int32} : wG d 182 (67, [.ref 101, .int x1, .int x2, .int x3, .int x4, .int x5], [.int xs0], mkH E ro) Q = Q (some (.int xs0)) (mkH E ro) := by
  exact r_iret rfl rfl

theorem sg_X10_prop_75 {d : Nat} {E : pEv} {ro : Nat → Nat → Int32} {Q : Option Value → pH → Prop} (s_E : oE E) {x1 : Int32} {x2 : Int32} {x3 : Int32} {x4 : Int32} {x5 : Int32} : wG d 182 (75, [.ref 101, .int x1, .int x2, .int x3, .int x4, .int x5], [], mkH E ro) Q = (if x2 < 4 then wX d 158 [.ref 101, .int x1, .int 6, .int x3] (mkH E ro) (fun v h' => wG d 182 (92, [.ref 101, .int x1, .int x2, .int x3, .int x4, .int x5], pv v [], h') Q) else wX d 158 [.ref 101, .int x1, .int 6, .int 0] (mkH E ro) (fun v h' => wG d 182 (92, [.ref 101, .int x1, .int x2, .int x3, .int x4, .int x5], pv v [], h') Q)) := by
  refine (r_aload_n rfl rfl rfl).trans ?_
  refine (r_iload_n rfl rfl rfl).trans ?_
  refine (r_bipush (v := 6) rfl rfl rfl).trans ?_
  refine (r_iload_n rfl rfl rfl).trans ?_
  refine (r_iconst (v := 4) rfl rfl rfl).trans ?_
  refine (r_icmp_ge rfl rfl rfl).trans ?_
  refine ite_congr rfl (fun h_0 => ?_) (fun h_0 => ?_)
  · refine (r_iload_n rfl rfl rfl).trans ?_
    refine (r_goto rfl rfl).trans ?_
    exact r_inv (m := 158) (c := 10) rfl rfl rfl rfl rfl rfl rfl rfl
  · refine (r_iconst (v := 0) rfl rfl rfl).trans ?_
    exact r_inv (m := 158) (c := 10) rfl rfl rfl rfl rfl rfl rfl rfl

theorem sg_X10_prop_92 {d : Nat} {E : pEv} {ro : Nat → Nat → Int32} {Q : Option Value → pH → Prop} (s_E : oE E) {x1 : Int32} {x2 : Int32} {x3 : Int32} {x4 : Int32} {x5 : Int32} : wG d 182 (92, [.ref 101, .int x1, .int x2, .int x3, .int x4, .int x5], [], mkH E ro) Q = (if x2 < 4 then wX d 158 [.ref 101, .int x1, .int 7, .int x4] (mkH E ro) (fun v h' => wG d 182 (110, [.ref 101, .int x1, .int x2, .int x3, .int x4, .int x5], pv v [], h') Q) else wX d 158 [.ref 101, .int x1, .int 7, .int 0] (mkH E ro) (fun v h' => wG d 182 (110, [.ref 101, .int x1, .int x2, .int x3, .int x4, .int x5], pv v [], h') Q)) := by
  refine (r_aload_n rfl rfl rfl).trans ?_
  refine (r_iload_n rfl rfl rfl).trans ?_
  refine (r_bipush (v := 7) rfl rfl rfl).trans ?_
  refine (r_iload_n rfl rfl rfl).trans ?_
  refine (r_iconst (v := 4) rfl rfl rfl).trans ?_
  refine (r_icmp_ge rfl rfl rfl).trans ?_
  refine ite_congr rfl (fun h_0 => ?_) (fun h_0 => ?_)
  · refine (r_iload rfl rfl rfl).trans ?_
    refine (r_goto rfl rfl).trans ?_
    exact r_inv (m := 158) (c := 10) rfl rfl rfl rfl rfl rfl rfl rfl
  · refine (r_iconst (v := 0) rfl rfl rfl).trans ?_
    exact r_inv (m := 158) (c := 10) rfl rfl rfl rfl rfl rfl rfl rfl

theorem sg_X10_prop_110 {d : Nat} {E : pEv} {ro : Nat → Nat → Int32} {Q : Option Value → pH → Prop} (s_E : oE E) {x1 : Int32} {x2 : Int32} {x3 : Int32} {x4 : Int32} {x5 : Int32} : wG d 182 (110, [.ref 101, .int x1, .int x2, .int x3, .int x4, .int x5], [], mkH E ro) Q = Q (some (.int 1)) (mkH E ro) := by
  refine (r_iconst (v := 1) rfl rfl rfl).trans ?_
  exact r_iret rfl rfl

theorem en_X10_ofScene {d : Nat} {E : pEv} {ro : Nat → Nat → Int32} {Q : Option Value → pH → Prop} (s_E : oE E) {x1 : Int32} {x2 : Int32} : wX (d + 1) 183 [.ref 101, .int x1, .int x2] (mkH E ro) Q = wX d 156 [.ref 101, .int x1] (mkH E ro) (fun v h' => wG d 183 (5, [.ref 101, .int x1, .int x2], pv v [], h') Q) := by
  refine (wX_in rfl (by decide)).trans ?_
  show wG d 183 (0, [.ref 101, .int x1, .int x2], [], mkH E ro) Q = _
  refine (r_aload_n rfl rfl rfl).trans ?_
  refine (r_iload_n rfl rfl rfl).trans ?_
  exact r_inv (m := 156) (c := 10) rfl rfl rfl rfl rfl rfl rfl rfl

theorem sg_X10_ofScene_5 {d : Nat} {E : pEv} {ro : Nat → Nat → Int32} {Q : Option Value → pH → Prop} (s_E : oE E) {x1 : Int32} {x2 : Int32} {xs0 : Int32} : wG d 183 (5, [.ref 101, .int x1, .int x2], [.int xs0], mkH E ro) Q = (if xs0 = 0 then wX d 153 [.ref 101, .int 1] (mkH E ro) (fun v h' => wG d 183 (25, [.ref 101, .int x1, .int x2], pv v [], h') Q) else wX d 154 [.long x2.toInt64, .long 0, .long 10] (mkH E ro) (fun v h' => wG d 183 (17, [.ref 101, .int x1, .int x2], pv v [], h') Q)) := by
  refine (r_if_eq rfl rfl rfl).trans ?_
  refine ite_congr rfl (fun h_0 => ?_) (fun h_0 => ?_)
  · refine (r_aload_n rfl rfl rfl).trans ?_
    refine (r_iconst (v := 1) rfl rfl rfl).trans ?_
    exact r_inv (m := 153) (c := 10) rfl rfl rfl rfl rfl rfl rfl rfl
  · refine (r_iload_n rfl rfl rfl).trans ?_
    refine (r_i2l rfl rfl).trans ?_
    refine (r_lconst (w := 0) rfl rfl rfl).trans ?_
    refine (r_ldc2_w (w := 10) rfl rfl rfl).trans ?_
    exact r_ins (m := 154) rfl rfl rfl rfl rfl rfl

theorem sg_X10_ofScene_17 {d : Nat} {E : pEv} {ro : Nat → Nat → Int32} {Q : Option Value → pH → Prop} (s_E : oE E) {x1 : Int32} {x2 : Int32} {xs0 : Int32} : wG d 183 (17, [.ref 101, .int x1, .int x2], [.int xs0], mkH E ro) Q = (if xs0 = 0 then wX d 153 [.ref 101, .int 1] (mkH E ro) (fun v h' => wG d 183 (25, [.ref 101, .int x1, .int x2], pv v [], h') Q) else (if x2 = 6 then wX d 157 [.ref 101, .int x1, .int 8] (mkH E ro) (fun v h' => wG d 183 (67, [.ref 101, .int x1, .int x2], pv v [], h') Q) else (if x2 = 7 then wX d 177 [.ref 101] (mkH E ro) (fun v h' => wG d 183 (72, [.ref 101, .int x1, .int x2], pv v [], h') Q) else (if x2 = 8 then wX d 178 [.ref 101, .int x1] (mkH E ro) (fun v h' => wG d 183 (82, [.ref 101, .int x1, .int x2], pv v [], h') Q) else (if x2 = 9 then wX d 177 [.ref 101] (mkH E ro) (fun v h' => wG d 183 (89, [.ref 101, .int x1, .int x2], pv v [.int x1, .ref 101], h') Q) else (if x2 = 10 then wX d 180 [.ref 101, .int x1] (mkH E ro) (fun v h' => wG d 183 (98, [.ref 101, .int x1, .int x2], pv v [], h') Q) else wX d 157 [.ref 101, .int x1, .int x2] (mkH E ro) (fun v h' => wG d 183 (113, [.ref 101, .int x1, .int x2], pv v [], h') Q))))))) := by
  refine (r_if_ne rfl rfl rfl).trans ?_
  refine ite_congr rfl (fun h_0 => ?_) (fun h_0 => ?_)
  · refine (r_aload_n rfl rfl rfl).trans ?_
    refine (r_iconst (v := 1) rfl rfl rfl).trans ?_
    exact r_inv (m := 153) (c := 10) rfl rfl rfl rfl rfl rfl rfl rfl
  · refine (r_iload_n rfl rfl rfl).trans ?_
    refine (r_sw (i := (80, 6, 10)) rfl rfl).trans ?_
    refine (r_swc (y := 6) rfl).trans ?_
    refine ite_congr rfl (fun h_1 => ?_) (fun h_1 => ?_)
    · refine (r_aload_n rfl rfl rfl).trans ?_
      refine (r_iload_n rfl rfl rfl).trans ?_
      refine (r_bipush (v := 8) rfl rfl rfl).trans ?_
      exact r_inv (m := 157) (c := 10) rfl rfl rfl rfl rfl rfl rfl rfl
    · refine (r_swc (y := 7) rfl).trans ?_
      refine ite_congr rfl (fun h_2 => ?_) (fun h_2 => ?_)
      · refine (r_aload_n rfl rfl rfl).trans ?_
        exact r_inv (m := 177) (c := 10) rfl rfl rfl rfl rfl rfl rfl rfl
      · refine (r_swc (y := 8) rfl).trans ?_
        refine ite_congr rfl (fun h_3 => ?_) (fun h_3 => ?_)
        · refine (r_aload_n rfl rfl rfl).trans ?_
          refine (r_iload_n rfl rfl rfl).trans ?_
          exact r_inv (m := 178) (c := 10) rfl rfl rfl rfl rfl rfl rfl rfl
        · refine (r_swc (y := 9) rfl).trans ?_
          refine ite_congr rfl (fun h_4 => ?_) (fun h_4 => ?_)
          · refine (r_aload_n rfl rfl rfl).trans ?_
            refine (r_iload_n rfl rfl rfl).trans ?_
            refine (r_aload_n rfl rfl rfl).trans ?_
            exact r_inv (m := 177) (c := 10) rfl rfl rfl rfl rfl rfl rfl rfl
          · refine (r_swc (y := 10) rfl).trans ?_
            refine ite_congr rfl (fun h_5 => ?_) (fun h_5 => ?_)
            · refine (r_aload_n rfl rfl rfl).trans ?_
              refine (r_iload_n rfl rfl rfl).trans ?_
              exact r_inv (m := 180) (c := 10) rfl rfl rfl rfl rfl rfl rfl rfl
            · refine r_swn.trans ?_
              refine (r_aload_n rfl rfl rfl).trans ?_
              refine (r_iload_n rfl rfl rfl).trans ?_
              refine (r_iload_n rfl rfl rfl).trans ?_
              exact r_inv (m := 157) (c := 10) rfl rfl rfl rfl rfl rfl rfl rfl

theorem sg_X10_ofScene_25 {d : Nat} {E : pEv} {ro : Nat → Nat → Int32} {Q : Option Value → pH → Prop} (s_E : oE E) {x1 : Int32} {x2 : Int32} {xs0 : Int32} : wG d 183 (25, [.ref 101, .int x1, .int x2], [.int xs0], mkH E ro) Q = Q (some (.int xs0)) (mkH E ro) := by
  exact r_iret rfl rfl

theorem sg_X10_ofScene_67 {d : Nat} {E : pEv} {ro : Nat → Nat → Int32} {Q : Option Value → pH → Prop} (s_E : oE E) {x1 : Int32} {x2 : Int32} {xs0 : Int32} : wG d 183 (67, [.ref 101, .int x1, .int x2], [.int xs0], mkH E ro) Q = Q (some (.int xs0)) (mkH E ro) := by
  exact r_iret rfl rfl

theorem sg_X10_ofScene_72 {d : Nat} {E : pEv} {ro : Nat → Nat → Int32} {Q : Option Value → pH → Prop} (s_E : oE E) {x1 : Int32} {x2 : Int32} {xs0 : Int32} : wG d 183 (72, [.ref 101, .int x1, .int x2], [.int xs0], mkH E ro) Q = Q (some (.int ((xs0 >>> (x1 &&& 31)) &&& 1))) (mkH E ro) := by
  refine (r_iload_n rfl rfl rfl).trans ?_
  refine (r_ishr rfl rfl).trans ?_
  refine (r_iconst (v := 1) rfl rfl rfl).trans ?_
  refine (r_iand rfl rfl).trans ?_
  exact r_iret rfl rfl

theorem sg_X10_ofScene_82 {d : Nat} {E : pEv} {ro : Nat → Nat → Int32} {Q : Option Value → pH → Prop} (s_E : oE E) {x1 : Int32} {x2 : Int32} {xs0 : Int32} : wG d 183 (82, [.ref 101, .int x1, .int x2], [.int xs0], mkH E ro) Q = Q (some (.int xs0)) (mkH E ro) := by
  exact r_iret rfl rfl

theorem sg_X10_ofScene_89 {d : Nat} {E : pEv} {ro : Nat → Nat → Int32} {Q : Option Value → pH → Prop} (s_E : oE E) {x1 : Int32} {x2 : Int32} {xs1 : Int32} {xs2 : Int32} : wG d 183 (89, [.ref 101, .int x1, .int x2], [.int xs2, .int xs1, .ref 101], mkH E ro) Q = wX d 179 [.ref 101, .int xs1, .int xs2] (mkH E ro) (fun v h' => wG d 183 (92, [.ref 101, .int x1, .int x2], pv v [], h') Q) := by
  exact r_inv (m := 179) (c := 10) rfl rfl rfl rfl rfl rfl rfl rfl

theorem sg_X10_ofScene_92 {d : Nat} {E : pEv} {ro : Nat → Nat → Int32} {Q : Option Value → pH → Prop} (s_E : oE E) {x1 : Int32} {x2 : Int32} {xs0 : Int32} : wG d 183 (92, [.ref 101, .int x1, .int x2], [.int xs0], mkH E ro) Q = Q (some (.int xs0)) (mkH E ro) := by
  exact r_iret rfl rfl

theorem sg_X10_ofScene_98 {d : Nat} {E : pEv} {ro : Nat → Nat → Int32} {Q : Option Value → pH → Prop} (s_E : oE E) {x1 : Int32} {x2 : Int32} {xs0 : Int32} : wG d 183 (98, [.ref 101, .int x1, .int x2], [.int xs0], mkH E ro) Q = (if xs0 = 0 then Q (some (.int 0)) (mkH E ro) else Q (some (.int 1)) (mkH E ro)) := by
  refine (r_if_eq rfl rfl rfl).trans ?_
  refine ite_congr rfl (fun h_0 => ?_) (fun h_0 => ?_)
  · refine (r_iconst (v := 0) rfl rfl rfl).trans ?_
    exact r_iret rfl rfl
  · refine (r_iconst (v := 1) rfl rfl rfl).trans ?_
    refine (r_goto rfl rfl).trans ?_
    exact r_iret rfl rfl

theorem sg_X10_ofScene_113 {d : Nat} {E : pEv} {ro : Nat → Nat → Int32} {Q : Option Value → pH → Prop} (s_E : oE E) {x1 : Int32} {x2 : Int32} {xs0 : Int32} : wG d 183 (113, [.ref 101, .int x1, .int x2], [.int xs0], mkH E ro) Q = Q (some (.int xs0)) (mkH E ro) := by
  exact r_iret rfl rfl

theorem en_X10_become {d : Nat} {E : pEv} {ro : Nat → Nat → Int32} {Q : Option Value → pH → Prop} (s_E : oE E) {x1 : Int32} {x2 : Int32} : wX (d + 1) 184 [.ref 101, .int x1, .int x2] (mkH E ro) Q = wX d 156 [.ref 101, .int x1] (mkH E ro) (fun v h' => wG d 184 (5, [.ref 101, .int x1, .int x2, .retAddr 0], pv v [], h') Q) := by
  refine (wX_in rfl (by decide)).trans ?_
  show wG d 184 (0, [.ref 101, .int x1, .int x2, .retAddr 0], [], mkH E ro) Q = _
  refine (r_aload_n rfl rfl rfl).trans ?_
  refine (r_iload_n rfl rfl rfl).trans ?_
  exact r_inv (m := 156) (c := 10) rfl rfl rfl rfl rfl rfl rfl rfl

theorem sg_X10_become_5 {d : Nat} {E : pEv} {ro : Nat → Nat → Int32} {Q : Option Value → pH → Prop} (s_E : oE E) {x1 : Int32} {x2 : Int32} {v3 : Value} {xs0 : Int32} : wG d 184 (5, [.ref 101, .int x1, .int x2, v3], [.int xs0], mkH E ro) Q = (if xs0 = 0 then wX d 153 [.ref 101, .int 1] (mkH E ro) (fun v h' => wG d 184 (25, [.ref 101, .int x1, .int x2, v3], pv v [], h') Q) else wX d 154 [.long x2.toInt64, .long 0, .long 69] (mkH E ro) (fun v h' => wG d 184 (17, [.ref 101, .int x1, .int x2, v3], pv v [], h') Q)) := by
  refine (r_if_eq rfl rfl rfl).trans ?_
  refine ite_congr rfl (fun h_0 => ?_) (fun h_0 => ?_)
  · refine (r_aload_n rfl rfl rfl).trans ?_
    refine (r_iconst (v := 1) rfl rfl rfl).trans ?_
    exact r_inv (m := 153) (c := 10) rfl rfl rfl rfl rfl rfl rfl rfl
  · refine (r_iload_n rfl rfl rfl).trans ?_
    refine (r_i2l rfl rfl).trans ?_
    refine (r_lconst (w := 0) rfl rfl rfl).trans ?_
    refine (r_ldc2_w (w := 69) rfl rfl rfl).trans ?_
    exact r_ins (m := 154) rfl rfl rfl rfl rfl rfl

theorem sg_X10_become_17 {d : Nat} {E : pEv} {ro : Nat → Nat → Int32} {Q : Option Value → pH → Prop} (s_E : oE E) {x1 : Int32} {x2 : Int32} {v3 : Value} {xs0 : Int32} : wG d 184 (17, [.ref 101, .int x1, .int x2, v3], [.int xs0], mkH E ro) Q = (if xs0 = 0 then wX d 153 [.ref 101, .int 1] (mkH E ro) (fun v h' => wG d 184 (25, [.ref 101, .int x1, .int x2, v3], pv v [], h') Q) else wX d 157 [.ref 101, .int x1, .int 0] (mkH E ro) (fun v h' => wG d 184 (32, [.ref 101, .int x1, .int x2, v3], pv v [], h') Q)) := by
  refine (r_if_ne rfl rfl rfl).trans ?_
  refine ite_congr rfl (fun h_0 => ?_) (fun h_0 => ?_)
  · refine (r_aload_n rfl rfl rfl).trans ?_
    refine (r_iconst (v := 1) rfl rfl rfl).trans ?_
    exact r_inv (m := 153) (c := 10) rfl rfl rfl rfl rfl rfl rfl rfl
  · refine (r_aload_n rfl rfl rfl).trans ?_
    refine (r_iload_n rfl rfl rfl).trans ?_
    refine (r_iconst (v := 0) rfl rfl rfl).trans ?_
    exact r_inv (m := 157) (c := 10) rfl rfl rfl rfl rfl rfl rfl rfl

theorem sg_X10_become_25 {d : Nat} {E : pEv} {ro : Nat → Nat → Int32} {Q : Option Value → pH → Prop} (s_E : oE E) {x1 : Int32} {x2 : Int32} {v3 : Value} {xs0 : Int32} : wG d 184 (25, [.ref 101, .int x1, .int x2, v3], [.int xs0], mkH E ro) Q = Q (some (.int xs0)) (mkH E ro) := by
  exact r_iret rfl rfl

theorem sg_X10_become_32 {d : Nat} {E : pEv} {ro : Nat → Nat → Int32} {Q : Option Value → pH → Prop} (s_E : oE E) {x1 : Int32} {x2 : Int32} {v3 : Value} {xs0 : Int32} : wG d 184 (32, [.ref 101, .int x1, .int x2, v3], [.int xs0], mkH E ro) Q = wX d 158 [.ref 101, .int x1, .int 0, .int (x2 / 10)] (mkH E ro) (fun v h' => wG d 184 (43, [.ref 101, .int x1, .int x2, .int xs0], pv v [], h') Q) := by
  refine (r_istore_n rfl rfl rfl rfl).trans ?_
  refine (r_aload_n rfl rfl rfl).trans ?_
  refine (r_iload_n rfl rfl rfl).trans ?_
  refine (r_iconst (v := 0) rfl rfl rfl).trans ?_
  refine (r_iload_n rfl rfl rfl).trans ?_
  refine (r_bipush (v := 10) rfl rfl rfl).trans ?_
  refine (r_idiv rfl rfl (by decide)).trans ?_
  exact r_inv (m := 158) (c := 10) rfl rfl rfl rfl rfl rfl rfl rfl

theorem sg_X10_become_43 {d : Nat} {E : pEv} {ro : Nat → Nat → Int32} {Q : Option Value → pH → Prop} (s_E : oE E) {x1 : Int32} {x2 : Int32} {x3 : Int32} : wG d 184 (43, [.ref 101, .int x1, .int x2, .int x3], [], mkH E ro) Q = wX d 158 [.ref 101, .int x1, .int 1, .int (x2 - x2 / 10 * 10)] (mkH E ro) (fun v h' => wG d 184 (53, [.ref 101, .int x1, .int x2, .int x3], pv v [], h') Q) := by
  refine (r_aload_n rfl rfl rfl).trans ?_
  refine (r_iload_n rfl rfl rfl).trans ?_
  refine (r_iconst (v := 1) rfl rfl rfl).trans ?_
  refine (r_iload_n rfl rfl rfl).trans ?_
  refine (r_bipush (v := 10) rfl rfl rfl).trans ?_
  refine (r_irem rfl rfl (by decide)).trans ?_
  exact r_inv (m := 158) (c := 10) rfl rfl rfl rfl rfl rfl rfl rfl

theorem sg_X10_become_53 {d : Nat} {E : pEv} {ro : Nat → Nat → Int32} {Q : Option Value → pH → Prop} (s_E : oE E) {x1 : Int32} {x2 : Int32} {x3 : Int32} : wG d 184 (53, [.ref 101, .int x1, .int x2, .int x3], [], mkH E ro) Q = Q (some (.int x3)) (mkH E ro) := by
  refine (r_iload_n rfl rfl rfl).trans ?_
  exact r_iret rfl rfl

theorem en_X10_as {d : Nat} {E : pEv} {ro : Nat → Nat → Int32} {Q : Option Value → pH → Prop} (s_E : oE E) {x1 : Int32} {x2 : Int32} : wX (d + 1) 185 [.ref 101, .int x1, .int x2] (mkH E ro) Q = wX d 156 [.ref 101, .int x1] (mkH E ro) (fun v h' => wG d 185 (5, [.ref 101, .int x1, .int x2, .retAddr 0], pv v [], h') Q) := by
  refine (wX_in rfl (by decide)).trans ?_
  show wG d 185 (0, [.ref 101, .int x1, .int x2, .retAddr 0], [], mkH E ro) Q = _
  refine (r_aload_n rfl rfl rfl).trans ?_
  refine (r_iload_n rfl rfl rfl).trans ?_
  exact r_inv (m := 156) (c := 10) rfl rfl rfl rfl rfl rfl rfl rfl

theorem sg_X10_as_5 {d : Nat} {E : pEv} {ro : Nat → Nat → Int32} {Q : Option Value → pH → Prop} (s_E : oE E) {x1 : Int32} {x2 : Int32} {v3 : Value} {xs0 : Int32} : wG d 185 (5, [.ref 101, .int x1, .int x2, v3], [.int xs0], mkH E ro) Q = (if xs0 = 0 then wX d 153 [.ref 101, .int 1] (mkH E ro) (fun v h' => wG d 185 (25, [.ref 101, .int x1, .int x2, v3], pv v [], h') Q) else wX d 154 [.long x2.toInt64, .long 0, .long 6] (mkH E ro) (fun v h' => wG d 185 (17, [.ref 101, .int x1, .int x2, v3], pv v [], h') Q)) := by
  refine (r_if_eq rfl rfl rfl).trans ?_
  refine ite_congr rfl (fun h_0 => ?_) (fun h_0 => ?_)
  · refine (r_aload_n rfl rfl rfl).trans ?_
    refine (r_iconst (v := 1) rfl rfl rfl).trans ?_
    exact r_inv (m := 153) (c := 10) rfl rfl rfl rfl rfl rfl rfl rfl
  · refine (r_iload_n rfl rfl rfl).trans ?_
    refine (r_i2l rfl rfl).trans ?_
    refine (r_lconst (w := 0) rfl rfl rfl).trans ?_
    refine (r_ldc2_w (w := 6) rfl rfl rfl).trans ?_
    exact r_ins (m := 154) rfl rfl rfl rfl rfl rfl

theorem sg_X10_as_17 {d : Nat} {E : pEv} {ro : Nat → Nat → Int32} {Q : Option Value → pH → Prop} (s_E : oE E) {x1 : Int32} {x2 : Int32} {v3 : Value} {xs0 : Int32} : wG d 185 (17, [.ref 101, .int x1, .int x2, v3], [.int xs0], mkH E ro) Q = (if xs0 = 0 then wX d 153 [.ref 101, .int 1] (mkH E ro) (fun v h' => wG d 185 (25, [.ref 101, .int x1, .int x2, v3], pv v [], h') Q) else wX d 157 [.ref 101, .int x1, .int 0] (mkH E ro) (fun v h' => wG d 185 (32, [.ref 101, .int x1, .int x2, v3], pv v [], h') Q)) := by
  refine (r_if_ne rfl rfl rfl).trans ?_
  refine ite_congr rfl (fun h_0 => ?_) (fun h_0 => ?_)
  · refine (r_aload_n rfl rfl rfl).trans ?_
    refine (r_iconst (v := 1) rfl rfl rfl).trans ?_
    exact r_inv (m := 153) (c := 10) rfl rfl rfl rfl rfl rfl rfl rfl
  · refine (r_aload_n rfl rfl rfl).trans ?_
    refine (r_iload_n rfl rfl rfl).trans ?_
    refine (r_iconst (v := 0) rfl rfl rfl).trans ?_
    exact r_inv (m := 157) (c := 10) rfl rfl rfl rfl rfl rfl rfl rfl

theorem sg_X10_as_25 {d : Nat} {E : pEv} {ro : Nat → Nat → Int32} {Q : Option Value → pH → Prop} (s_E : oE E) {x1 : Int32} {x2 : Int32} {v3 : Value} {xs0 : Int32} : wG d 185 (25, [.ref 101, .int x1, .int x2, v3], [.int xs0], mkH E ro) Q = Q (some (.int xs0)) (mkH E ro) := by
  exact r_iret rfl rfl

theorem sg_X10_as_32 {d : Nat} {E : pEv} {ro : Nat → Nat → Int32} {Q : Option Value → pH → Prop} (s_E : oE E) {x1 : Int32} {x2 : Int32} {v3 : Value} {xs0 : Int32} : wG d 185 (32, [.ref 101, .int x1, .int x2, v3], [.int xs0], mkH E ro) Q = (if x2 = 0 then wX d 157 [.ref 101, .int x1, .int 1] (mkH E ro) (fun v h' => wG d 185 (56, [.ref 101, .int x1, .int x2, .int xs0], pv v [], h') Q) else (if x2 = xs0 then wX d 157 [.ref 101, .int x1, .int 1] (mkH E ro) (fun v h' => wG d 185 (56, [.ref 101, .int x1, .int x2, .int xs0], pv v [], h') Q) else wX d 175 [.int xs0] (mkH E ro) (fun v h' => wG d 185 (47, [.ref 101, .int x1, .int x2, .int xs0], pv v [.int x2], h') Q))) := by
  refine (r_istore_n rfl rfl rfl rfl).trans ?_
  refine (r_iload_n rfl rfl rfl).trans ?_
  refine (r_if_eq rfl rfl rfl).trans ?_
  refine ite_congr rfl (fun h_0 => ?_) (fun h_0 => ?_)
  · refine (r_aload_n rfl rfl rfl).trans ?_
    refine (r_iload_n rfl rfl rfl).trans ?_
    refine (r_iconst (v := 1) rfl rfl rfl).trans ?_
    exact r_inv (m := 157) (c := 10) rfl rfl rfl rfl rfl rfl rfl rfl
  · refine (r_iload_n rfl rfl rfl).trans ?_
    refine (r_iload_n rfl rfl rfl).trans ?_
    refine (r_icmp_eq rfl rfl rfl).trans ?_
    refine ite_congr rfl (fun h_1 => ?_) (fun h_1 => ?_)
    · refine (r_aload_n rfl rfl rfl).trans ?_
      refine (r_iload_n rfl rfl rfl).trans ?_
      refine (r_iconst (v := 1) rfl rfl rfl).trans ?_
      exact r_inv (m := 157) (c := 10) rfl rfl rfl rfl rfl rfl rfl rfl
    · refine (r_iload_n rfl rfl rfl).trans ?_
      refine (r_iload_n rfl rfl rfl).trans ?_
      exact r_ins (m := 175) rfl rfl rfl rfl rfl rfl

theorem sg_X10_as_47 {d : Nat} {E : pEv} {ro : Nat → Nat → Int32} {Q : Option Value → pH → Prop} (s_E : oE E) {x1 : Int32} {x2 : Int32} {x3 : Int32} {xs0 : Int32} {xs1 : Int32} : wG d 185 (47, [.ref 101, .int x1, .int x2, .int x3], [.int xs1, .int xs0], mkH E ro) Q = (if xs0 = xs1 then wX d 157 [.ref 101, .int x1, .int 1] (mkH E ro) (fun v h' => wG d 185 (56, [.ref 101, .int x1, .int x2, .int x3], pv v [], h') Q) else wX d 153 [.ref 101, .int 5] (mkH E ro) (fun v h' => wG d 185 (64, [.ref 101, .int x1, .int x2, .int x3], pv v [], h') Q)) := by
  refine (r_icmp_ne rfl rfl rfl).trans ?_
  refine ite_congr rfl (fun h_0 => ?_) (fun h_0 => ?_)
  · refine (r_aload_n rfl rfl rfl).trans ?_
    refine (r_iload_n rfl rfl rfl).trans ?_
    refine (r_iconst (v := 1) rfl rfl rfl).trans ?_
    exact r_inv (m := 157) (c := 10) rfl rfl rfl rfl rfl rfl rfl rfl
  · refine (r_aload_n rfl rfl rfl).trans ?_
    refine (r_iconst (v := 5) rfl rfl rfl).trans ?_
    exact r_inv (m := 153) (c := 10) rfl rfl rfl rfl rfl rfl rfl rfl

theorem sg_X10_as_56 {d : Nat} {E : pEv} {ro : Nat → Nat → Int32} {Q : Option Value → pH → Prop} (s_E : oE E) {x1 : Int32} {x2 : Int32} {x3 : Int32} {xs0 : Int32} : wG d 185 (56, [.ref 101, .int x1, .int x2, .int x3], [.int xs0], mkH E ro) Q = Q (some (.int xs0)) (mkH E ro) := by
  refine (r_goto rfl rfl).trans ?_
  exact r_iret rfl rfl

theorem sg_X10_as_64 {d : Nat} {E : pEv} {ro : Nat → Nat → Int32} {Q : Option Value → pH → Prop} (s_E : oE E) {x1 : Int32} {x2 : Int32} {x3 : Int32} {xs0 : Int32} : wG d 185 (64, [.ref 101, .int x1, .int x2, .int x3], [.int xs0], mkH E ro) Q = Q (some (.int xs0)) (mkH E ro) := by
  exact r_iret rfl rfl

theorem en_X10_set {d : Nat} {E : pEv} {ro : Nat → Nat → Int32} {Q : Option Value → pH → Prop} (s_E : oE E) {x1 : Int32} {x2 : Int32} {x3 : Int32} : wX (d + 1) 186 [.ref 101, .int x1, .int x2, .int x3] (mkH E ro) Q = (if x2 = 3 then wX d 154 [.long x3.toInt64, .long 1, .long 30] (mkH E ro) (fun v h' => wG d 186 (14, [.ref 101, .int x1, .int x2, .int x3, .retAddr 0, .retAddr 0, .retAddr 0], pv v [], h') Q) else (if x2 = 4 then wX d 154 [.long x3.toInt64, .long 0, .long 63] (mkH E ro) (fun v h' => wG d 186 (31, [.ref 101, .int x1, .int x2, .int x3, .retAddr 0, .retAddr 0, .retAddr 0], pv v [], h') Q) else (if x2 = 6 then wX d 154 [.long x3.toInt64, .long 0, .long 1] (mkH E ro) (fun v h' => wG d 186 (47, [.ref 101, .int x1, .int x2, .int x3, .retAddr 0, .retAddr 0, .retAddr 0], pv v [], h') Q) else wX d 156 [.ref 101, .int x1] (mkH E ro) (fun v h' => wG d 186 (62, [.ref 101, .int x1, .int x2, .int x3, .int 0, .retAddr 0, .retAddr 0], pv v [], h') Q)))) := by
  refine (wX_in rfl (by decide)).trans ?_
  show wG d 186 (0, [.ref 101, .int x1, .int x2, .int x3, .retAddr 0, .retAddr 0, .retAddr 0], [], mkH E ro) Q = _
  refine (r_iload_n rfl rfl rfl).trans ?_
  refine (r_iconst (v := 3) rfl rfl rfl).trans ?_
  refine (r_icmp_ne rfl rfl rfl).trans ?_
  refine ite_congr rfl (fun h_0 => ?_) (fun h_0 => ?_)
  · refine (r_iload_n rfl rfl rfl).trans ?_
    refine (r_i2l rfl rfl).trans ?_
    refine (r_lconst (w := 1) rfl rfl rfl).trans ?_
    refine (r_ldc2_w (w := 30) rfl rfl rfl).trans ?_
    exact r_ins (m := 154) rfl rfl rfl rfl rfl rfl
  · refine (r_iload_n rfl rfl rfl).trans ?_
    refine (r_iconst (v := 4) rfl rfl rfl).trans ?_
    refine (r_icmp_ne rfl rfl rfl).trans ?_
    refine ite_congr rfl (fun h_1 => ?_) (fun h_1 => ?_)
    · refine (r_iload_n rfl rfl rfl).trans ?_
      refine (r_i2l rfl rfl).trans ?_
      refine (r_lconst (w := 0) rfl rfl rfl).trans ?_
      refine (r_ldc2_w (w := 63) rfl rfl rfl).trans ?_
      exact r_ins (m := 154) rfl rfl rfl rfl rfl rfl
    · refine (r_iload_n rfl rfl rfl).trans ?_
      refine (r_bipush (v := 6) rfl rfl rfl).trans ?_
      refine (r_icmp_ne rfl rfl rfl).trans ?_
      refine ite_congr rfl (fun h_2 => ?_) (fun h_2 => ?_)
      · refine (r_iload_n rfl rfl rfl).trans ?_
        refine (r_i2l rfl rfl).trans ?_
        refine (r_lconst (w := 0) rfl rfl rfl).trans ?_
        refine (r_lconst (w := 1) rfl rfl rfl).trans ?_
        exact r_ins (m := 154) rfl rfl rfl rfl rfl rfl
      · refine (r_iconst (v := 0) rfl rfl rfl).trans ?_
        refine (r_istore rfl rfl rfl rfl).trans ?_
        refine (r_aload_n rfl rfl rfl).trans ?_
        refine (r_iload_n rfl rfl rfl).trans ?_
        exact r_inv (m := 156) (c := 10) rfl rfl rfl rfl rfl rfl rfl rfl

theorem sg_X10_set_14 {d : Nat} {E : pEv} {ro : Nat → Nat → Int32} {Q : Option Value → pH → Prop} (s_E : oE E) {x1 : Int32} {x2 : Int32} {x3 : Int32} {v4 : Value} {v5 : Value} {v6 : Value} {xs0 : Int32} : wG d 186 (14, [.ref 101, .int x1, .int x2, .int x3, v4, v5, v6], [.int xs0], mkH E ro) Q = wX d 156 [.ref 101, .int x1] (mkH E ro) (fun v h' => wG d 186 (62, [.ref 101, .int x1, .int x2, .int x3, .int xs0, v5, v6], pv v [], h') Q) := by
  refine (r_goto rfl rfl).trans ?_
  refine (r_istore rfl rfl rfl rfl).trans ?_
  refine (r_aload_n rfl rfl rfl).trans ?_
  refine (r_iload_n rfl rfl rfl).trans ?_
  exact r_inv (m := 156) (c := 10) rfl rfl rfl rfl rfl rfl rfl rfl

theorem sg_X10_set_31 {d : Nat} {E : pEv} {ro : Nat → Nat → Int32} {Q : Option Value → pH → Prop} (s_E : oE E) {x1 : Int32} {x2 : Int32} {x3 : Int32} {v4 : Value} {v5 : Value} {v6 : Value} {xs0 : Int32} : wG d 186 (31, [.ref 101, .int x1, .int x2, .int x3, v4, v5, v6], [.int xs0], mkH E ro) Q = wX d 156 [.ref 101, .int x1] (mkH E ro) (fun v h' => wG d 186 (62, [.ref 101, .int x1, .int x2, .int x3, .int xs0, v5, v6], pv v [], h') Q) := by
  refine (r_goto rfl rfl).trans ?_
  refine (r_istore rfl rfl rfl rfl).trans ?_
  refine (r_aload_n rfl rfl rfl).trans ?_
  refine (r_iload_n rfl rfl rfl).trans ?_
  exact r_inv (m := 156) (c := 10) rfl rfl rfl rfl rfl rfl rfl rfl

theorem sg_X10_set_47 {d : Nat} {E : pEv} {ro : Nat → Nat → Int32} {Q : Option Value → pH → Prop} (s_E : oE E) {x1 : Int32} {x2 : Int32} {x3 : Int32} {v4 : Value} {v5 : Value} {v6 : Value} {xs0 : Int32} : wG d 186 (47, [.ref 101, .int x1, .int x2, .int x3, v4, v5, v6], [.int xs0], mkH E ro) Q = (if xs0 = 0 then wX d 156 [.ref 101, .int x1] (mkH E ro) (fun v h' => wG d 186 (62, [.ref 101, .int x1, .int x2, .int x3, .int 0, v5, v6], pv v [], h') Q) else wX d 156 [.ref 101, .int x1] (mkH E ro) (fun v h' => wG d 186 (62, [.ref 101, .int x1, .int x2, .int x3, .int 1, v5, v6], pv v [], h') Q)) := by
  refine (r_if_eq rfl rfl rfl).trans ?_
  refine ite_congr rfl (fun h_0 => ?_) (fun h_0 => ?_)
  · refine (r_iconst (v := 0) rfl rfl rfl).trans ?_
    refine (r_istore rfl rfl rfl rfl).trans ?_
    refine (r_aload_n rfl rfl rfl).trans ?_
    refine (r_iload_n rfl rfl rfl).trans ?_
    exact r_inv (m := 156) (c := 10) rfl rfl rfl rfl rfl rfl rfl rfl
  · refine (r_iconst (v := 1) rfl rfl rfl).trans ?_
    refine (r_goto rfl rfl).trans ?_
    refine (r_istore rfl rfl rfl rfl).trans ?_
    refine (r_aload_n rfl rfl rfl).trans ?_
    refine (r_iload_n rfl rfl rfl).trans ?_
    exact r_inv (m := 156) (c := 10) rfl rfl rfl rfl rfl rfl rfl rfl

theorem sg_X10_set_62 {d : Nat} {E : pEv} {ro : Nat → Nat → Int32} {Q : Option Value → pH → Prop} (s_E : oE E) {x1 : Int32} {x2 : Int32} {x3 : Int32} {x4 : Int32} {v5 : Value} {v6 : Value} {xs0 : Int32} : wG d 186 (62, [.ref 101, .int x1, .int x2, .int x3, .int x4, v5, v6], [.int xs0], mkH E ro) Q = (if xs0 = 0 then wX d 153 [.ref 101, .int 1] (mkH E ro) (fun v h' => wG d 186 (75, [.ref 101, .int x1, .int x2, .int x3, .int x4, v5, v6], pv v [], h') Q) else (if x4 = 0 then wX d 153 [.ref 101, .int 1] (mkH E ro) (fun v h' => wG d 186 (75, [.ref 101, .int x1, .int x2, .int x3, .int x4, v5, v6], pv v [], h') Q) else (if x2 = 6 then wX d 157 [.ref 101, .int x1, .int 8] (mkH E ro) (fun v h' => wG d 186 (97, [.ref 101, .int x1, .int x2, .int x3, .int x4, .int 8, v6], pv v [], h') Q) else wX d 157 [.ref 101, .int x1, .int x2] (mkH E ro) (fun v h' => wG d 186 (97, [.ref 101, .int x1, .int x2, .int x3, .int x4, .int x2, v6], pv v [], h') Q)))) := by
  refine (r_if_eq rfl rfl rfl).trans ?_
  refine ite_congr rfl (fun h_0 => ?_) (fun h_0 => ?_)
  · refine (r_aload_n rfl rfl rfl).trans ?_
    refine (r_iconst (v := 1) rfl rfl rfl).trans ?_
    exact r_inv (m := 153) (c := 10) rfl rfl rfl rfl rfl rfl rfl rfl
  · refine (r_iload rfl rfl rfl).trans ?_
    refine (r_if_ne rfl rfl rfl).trans ?_
    refine ite_congr rfl (fun h_1 => ?_) (fun h_1 => ?_)
    · refine (r_aload_n rfl rfl rfl).trans ?_
      refine (r_iconst (v := 1) rfl rfl rfl).trans ?_
      exact r_inv (m := 153) (c := 10) rfl rfl rfl rfl rfl rfl rfl rfl
    · refine (r_iload_n rfl rfl rfl).trans ?_
      refine (r_bipush (v := 6) rfl rfl rfl).trans ?_
      refine (r_icmp_ne rfl rfl rfl).trans ?_
      refine ite_congr rfl (fun h_2 => ?_) (fun h_2 => ?_)
      · refine (r_bipush (v := 8) rfl rfl rfl).trans ?_
        refine (r_goto rfl rfl).trans ?_
        refine (r_istore rfl rfl rfl rfl).trans ?_
        refine (r_aload_n rfl rfl rfl).trans ?_
        refine (r_iload_n rfl rfl rfl).trans ?_
        refine (r_iload rfl rfl rfl).trans ?_
        exact r_inv (m := 157) (c := 10) rfl rfl rfl rfl rfl rfl rfl rfl
      · refine (r_iload_n rfl rfl rfl).trans ?_
        refine (r_istore rfl rfl rfl rfl).trans ?_
        refine (r_aload_n rfl rfl rfl).trans ?_
        refine (r_iload_n rfl rfl rfl).trans ?_
        refine (r_iload rfl rfl rfl).trans ?_
        exact r_inv (m := 157) (c := 10) rfl rfl rfl rfl rfl rfl rfl rfl

theorem sg_X10_set_75 {d : Nat} {E : pEv} {ro : Nat → Nat → Int32} {Q : Option Value → pH → Prop} (s_E : oE E) {x1 : Int32} {x2 : Int32} {x3 : Int32} {x4 : Int32} {v5 : Value} {v6 : Value} {xs0 : Int32} : wG d 186 (75, [.ref 101, .int x1, .int x2, .int x3, .int x4, v5, v6], [.int xs0], mkH E ro) Q = Q (some (.int xs0)) (mkH E ro) := by
  exact r_iret rfl rfl

theorem sg_X10_set_97 {d : Nat} {E : pEv} {ro : Nat → Nat → Int32} {Q : Option Value → pH → Prop} (s_E : oE E) {x1 : Int32} {x2 : Int32} {x3 : Int32} {x4 : Int32} {x5 : Int32} {v6 : Value} {xs0 : Int32} : wG d 186 (97, [.ref 101, .int x1, .int x2, .int x3, .int x4, .int x5, v6], [.int xs0], mkH E ro) Q = wX d 158 [.ref 101, .int x1, .int x5, .int x3] (mkH E ro) (fun v h' => wG d 186 (107, [.ref 101, .int x1, .int x2, .int x3, .int x4, .int x5, .int xs0], pv v [], h') Q) := by
  refine (r_istore rfl rfl rfl rfl).trans ?_
  refine (r_aload_n rfl rfl rfl).trans ?_
  refine (r_iload_n rfl rfl rfl).trans ?_
  refine (r_iload rfl rfl rfl).trans ?_
  refine (r_iload_n rfl rfl rfl).trans ?_
  exact r_inv (m := 158) (c := 10) rfl rfl rfl rfl rfl rfl rfl rfl

theorem sg_X10_set_107 {d : Nat} {E : pEv} {ro : Nat → Nat → Int32} {Q : Option Value → pH → Prop} (s_E : oE E) {x1 : Int32} {x2 : Int32} {x3 : Int32} {x4 : Int32} {x5 : Int32} {x6 : Int32} : wG d 186 (107, [.ref 101, .int x1, .int x2, .int x3, .int x4, .int x5, .int x6], [], mkH E ro) Q = Q (some (.int x6)) (mkH E ro) := by
  refine (r_iload rfl rfl rfl).trans ?_
  exact r_iret rfl rfl

theorem en_X10_comes {d : Nat} {E : pEv} {ro : Nat → Nat → Int32} {Q : Option Value → pH → Prop} (s_E : oE E) : wX (d + 1) 187 [.ref 101] (mkH E ro) Q = wX d 177 [.ref 101] (mkH E ro) (fun v h' => wG d 187 (4, [.ref 101], pv v [], h') Q) := by
  refine (wX_in rfl (by decide)).trans ?_
  show wG d 187 (0, [.ref 101], [], mkH E ro) Q = _
  refine (r_aload_n rfl rfl rfl).trans ?_
  exact r_inv (m := 177) (c := 10) rfl rfl rfl rfl rfl rfl rfl rfl

theorem sg_X10_comes_4 {d : Nat} {E : pEv} {ro : Nat → Nat → Int32} {Q : Option Value → pH → Prop} (s_E : oE E) {xs0 : Int32} : wG d 187 (4, [.ref 101], [.int xs0], mkH E ro) Q = Q (some (.int xs0)) (mkH E ro) := by
  exact r_iret rfl rfl

theorem en_X10_rowAsGiven {d : Nat} {E : pEv} {ro : Nat → Nat → Int32} {Q : Option Value → pH → Prop} (s_E : oE E) : wX (d + 1) 188 [.ref 101] (mkH E ro) Q = wG d 188 (2, [.ref 101, .int 0], [], mkH E ro) Q := by
  refine (wX_in rfl (by decide)).trans ?_
  show wG d 188 (0, [.ref 101, .retAddr 0], [], mkH E ro) Q = _
  refine (r_iconst (v := 0) rfl rfl rfl).trans ?_
  refine (r_istore_n rfl rfl rfl rfl).trans ?_
  exact rfl

theorem sg_X10_rowAsGiven_2 {d : Nat} {E : pEv} {ro : Nat → Nat → Int32} {Q : Option Value → pH → Prop} (s_E : oE E) {x1 : Int32} (b0 : (x1 < (ro 102 0)) → (¬ (80 + x1) < 0 ∧ (80 + x1).toNatClampNeg < 264)) (b1 : (x1 < (ro 102 0)) → (¬ x1 < 0 ∧ x1.toNatClampNeg < 7)) : wG d 188 (2, [.ref 101, .int x1], [], mkH E ro) Q = (if x1 < (ro 102 0) then wG d 188 (2, [.ref 101, .int (x1 + 1)], [], mkH E (uI ro 106 x1.toNatClampNeg (ro 102 (80 + x1).toNatClampNeg))) Q else Q none (mkH E ro)) := by
  refine (r_iload_n rfl rfl rfl).trans ?_
  refine (r_aload_n rfl rfl rfl).trans ?_
  refine (r_getR (ci := 10) (sl := 0) s_E rfl rfl rfl rfl (by decide) rfl rfl).trans ?_
  refine (r_iconst (v := 0) rfl rfl rfl).trans ?_
  refine (r_iald rfl rfl rfl (by decide) (by decide)).trans ?_
  refine (r_icmp_ge rfl rfl rfl).trans ?_
  refine ite_congr rfl (fun h_0 => ?_) (fun h_0 => ?_)
  · refine (r_aload_n rfl rfl rfl).trans ?_
    refine (r_getR (ci := 10) (sl := 11) s_E rfl rfl rfl rfl (by decide) rfl rfl).trans ?_
    refine (r_iload_n rfl rfl rfl).trans ?_
    refine (r_aload_n rfl rfl rfl).trans ?_
    refine (r_getR (ci := 10) (sl := 0) s_E rfl rfl rfl rfl (by decide) rfl rfl).trans ?_
    refine (r_bipush (v := 80) rfl rfl rfl).trans ?_
    refine (r_iload_n rfl rfl rfl).trans ?_
    refine (r_iadd rfl rfl).trans ?_
    refine (r_iald rfl rfl rfl (by decide) (b0 h_0)).trans ?_
    refine (r_iast rfl rfl rfl (by decide) (b1 h_0)).trans ?_
    refine (r_iinc (y := 1) rfl rfl rfl rfl rfl rfl).trans ?_
    refine (r_goto rfl rfl).trans ?_
    exact rfl
  · exact r_vret rfl rfl

theorem en_X10_findGuesses {d : Nat} {E : pEv} {ro : Nat → Nat → Int32} {Q : Option Value → pH → Prop} (s_E : oE E) : wX (d + 1) 189 [.ref 101] (mkH E ro) Q = wG d 189 (2, [.ref 101, .int 0, .retAddr 0, .retAddr 0], [], mkH E ro) Q := by
  refine (wX_in rfl (by decide)).trans ?_
  show wG d 189 (0, [.ref 101, .retAddr 0, .retAddr 0, .retAddr 0], [], mkH E ro) Q = _
  refine (r_iconst (v := 0) rfl rfl rfl).trans ?_
  refine (r_istore_n rfl rfl rfl rfl).trans ?_
  exact rfl

theorem sg_X10_findGuesses_2 {d : Nat} {E : pEv} {ro : Nat → Nat → Int32} {Q : Option Value → pH → Prop} (s_E : oE E) {x1 : Int32} {v2 : Value} {v3 : Value} : wG d 189 (2, [.ref 101, .int x1, v2, v3], [], mkH E ro) Q = (if x1 < (ro 102 0) then wX d 157 [.ref 101, .int x1, .int 2] (mkH E ro) (fun v h' => wG d 189 (18, [.ref 101, .int x1, v2, v3], pv v [], h') Q) else Q none (mkH E ro)) := by
  refine (r_iload_n rfl rfl rfl).trans ?_
  refine (r_aload_n rfl rfl rfl).trans ?_
  refine (r_getR (ci := 10) (sl := 0) s_E rfl rfl rfl rfl (by decide) rfl rfl).trans ?_
  refine (r_iconst (v := 0) rfl rfl rfl).trans ?_
  refine (r_iald rfl rfl rfl (by decide) (by decide)).trans ?_
  refine (r_icmp_ge rfl rfl rfl).trans ?_
  refine ite_congr rfl (fun h_0 => ?_) (fun h_0 => ?_)
  · refine (r_aload_n rfl rfl rfl).trans ?_
    refine (r_iload_n rfl rfl rfl).trans ?_
    refine (r_iconst (v := 2) rfl rfl rfl).trans ?_
    exact r_inv (m := 157) (c := 10) rfl rfl rfl rfl rfl rfl rfl rfl
  · exact r_vret rfl rfl

theorem sg_X10_findGuesses_18 {d : Nat} {E : pEv} {ro : Nat → Nat → Int32} {Q : Option Value → pH → Prop} (s_E : oE E) {x1 : Int32} {v2 : Value} {v3 : Value} {xs0 : Int32} : wG d 189 (18, [.ref 101, .int x1, v2, v3], [.int xs0], mkH E ro) Q = wX d 159 [.int xs0] (mkH E ro) (fun v h' => wG d 189 (21, [.ref 101, .int x1, v2, v3], pv v [], h') Q) := by
  exact r_ins (m := 159) rfl rfl rfl rfl rfl rfl

theorem sg_X10_findGuesses_21 {d : Nat} {E : pEv} {ro : Nat → Nat → Int32} {Q : Option Value → pH → Prop} (s_E : oE E) {x1 : Int32} {v2 : Value} {v3 : Value} {xs0 : Int32} : wG d 189 (21, [.ref 101, .int x1, v2, v3], [.int xs0], mkH E ro) Q = wG d 189 (24, [.ref 101, .int x1, .int xs0, .int 0], [], mkH E ro) Q := by
  refine (r_istore_n rfl rfl rfl rfl).trans ?_
  refine (r_iconst (v := 0) rfl rfl rfl).trans ?_
  refine (r_istore_n rfl rfl rfl rfl).trans ?_
  exact rfl

theorem sg_X10_findGuesses_24 {d : Nat} {E : pEv} {ro : Nat → Nat → Int32} {Q : Option Value → pH → Prop} (s_E : oE E) {x1 : Int32} {x2 : Int32} {x3 : Int32} : wG d 189 (24, [.ref 101, .int x1, .int x2, .int x3], [], mkH E ro) Q = (if x2 < x3 then wG d 189 (2, [.ref 101, .int (x1 + 1), .int x2, .int x3], [], mkH E ro) Q else wX d 157 [.ref 101, .int x1, .int 3] (mkH E ro) (fun v h' => wG d 189 (48, [.ref 101, .int x1, .int x2, .int x3], pv v [.int x3, .int 0, .ref 101, .int ((8 * x1) + x3), .ref 107], h') Q)) := by
  refine (r_iload_n rfl rfl rfl).trans ?_
  refine (r_iload_n rfl rfl rfl).trans ?_
  refine (r_icmp_gt rfl rfl rfl).trans ?_
  refine ite_congr rfl (fun h_0 => ?_) (fun h_0 => ?_)
  · refine (r_iinc (y := 1) rfl rfl rfl rfl rfl rfl).trans ?_
    refine (r_goto rfl rfl).trans ?_
    exact rfl
  · refine (r_aload_n rfl rfl rfl).trans ?_
    refine (r_getR (ci := 10) (sl := 12) s_E rfl rfl rfl rfl (by decide) rfl rfl).trans ?_
    refine (r_bipush (v := 8) rfl rfl rfl).trans ?_
    refine (r_iload_n rfl rfl rfl).trans ?_
    refine (r_imul rfl rfl).trans ?_
    refine (r_iload_n rfl rfl rfl).trans ?_
    refine (r_iadd rfl rfl).trans ?_
    refine (r_aload_n rfl rfl rfl).trans ?_
    refine (r_iconst (v := 0) rfl rfl rfl).trans ?_
    refine (r_iload_n rfl rfl rfl).trans ?_
    refine (r_aload_n rfl rfl rfl).trans ?_
    refine (r_iload_n rfl rfl rfl).trans ?_
    refine (r_iconst (v := 3) rfl rfl rfl).trans ?_
    exact r_inv (m := 157) (c := 10) rfl rfl rfl rfl rfl rfl rfl rfl

theorem sg_X10_findGuesses_48 {d : Nat} {E : pEv} {ro : Nat → Nat → Int32} {Q : Option Value → pH → Prop} (s_E : oE E) {x1 : Int32} {x2 : Int32} {x3 : Int32} {xs1 : Int32} {xs3 : Int32} {xs4 : Int32} {xs5 : Int32} : wG d 189 (48, [.ref 101, .int x1, .int x2, .int x3], [.int xs5, .int xs4, .int xs3, .ref 101, .int xs1, .ref 107], mkH E ro) Q = wX d 157 [.ref 101, .int x1, .int 1] (mkH E ro) (fun v h' => wG d 189 (54, [.ref 101, .int x1, .int x2, .int x3], pv v [.int xs5, .int xs4, .int xs3, .ref 101, .int xs1, .ref 107], h') Q) := by
  refine (r_aload_n rfl rfl rfl).trans ?_
  refine (r_iload_n rfl rfl rfl).trans ?_
  refine (r_iconst (v := 1) rfl rfl rfl).trans ?_
  exact r_inv (m := 157) (c := 10) rfl rfl rfl rfl rfl rfl rfl rfl

theorem sg_X10_findGuesses_54 {d : Nat} {E : pEv} {ro : Nat → Nat → Int32} {Q : Option Value → pH → Prop} (s_E : oE E) {x1 : Int32} {x2 : Int32} {x3 : Int32} {xs1 : Int32} {xs3 : Int32} {xs4 : Int32} {xs5 : Int32} {xs6 : Int32} : wG d 189 (54, [.ref 101, .int x1, .int x2, .int x3], [.int xs6, .int xs5, .int xs4, .int xs3, .ref 101, .int xs1, .ref 107], mkH E ro) Q = wX d 173 [.ref 101, .int xs3, .int xs4, .int xs5, .int xs6] (mkH E ro) (fun v h' => wG d 189 (57, [.ref 101, .int x1, .int x2, .int x3], pv v [.int xs1, .ref 107], h') Q) := by
  exact r_inv (m := 173) (c := 10) rfl rfl rfl rfl rfl rfl rfl rfl

theorem sg_X10_findGuesses_57 {d : Nat} {E : pEv} {ro : Nat → Nat → Int32} {Q : Option Value → pH → Prop} (s_E : oE E) {x1 : Int32} {x2 : Int32} {x3 : Int32} {xs1 : Int32} {xs2 : Int32} (b0 : (¬ 0 < x3) → (¬ xs1 < 0 ∧ xs1.toNatClampNeg < 56)) : wG d 189 (57, [.ref 101, .int x1, .int x2, .int x3], [.int xs2, .int xs1, .ref 107], mkH E ro) Q = (if 0 < x3 then wX d 178 [.ref 101, .int x1] (mkH E ro) (fun v h' => wG d 189 (66, [.ref 101, .int x1, .int x2, .int x3], pv v [.int xs2, .int xs1, .ref 107], h') Q) else wG d 189 (24, [.ref 101, .int x1, .int x2, .int (x3 + 1)], [], mkH E (uI ro 107 xs1.toNatClampNeg (xs2 + 0))) Q) := by
  refine (r_iload_n rfl rfl rfl).trans ?_
  refine (r_if_le rfl rfl rfl).trans ?_
  refine ite_congr rfl (fun h_0 => ?_) (fun h_0 => ?_)
  · refine (r_aload_n rfl rfl rfl).trans ?_
    refine (r_iload_n rfl rfl rfl).trans ?_
    exact r_inv (m := 178) (c := 10) rfl rfl rfl rfl rfl rfl rfl rfl
  · refine (r_iconst (v := 0) rfl rfl rfl).trans ?_
    refine (r_iadd rfl rfl).trans ?_
    refine (r_iast rfl rfl rfl (by decide) (b0 h_0)).trans ?_
    refine (r_iinc (y := 1) rfl rfl rfl rfl rfl rfl).trans ?_
    refine (r_goto rfl rfl).trans ?_
    exact rfl

theorem sg_X10_findGuesses_66 {d : Nat} {E : pEv} {ro : Nat → Nat → Int32} {Q : Option Value → pH → Prop} (s_E : oE E) {x1 : Int32} {x2 : Int32} {x3 : Int32} {xs1 : Int32} {xs2 : Int32} {xs3 : Int32} (b0 : (¬ xs1 < 0 ∧ xs1.toNatClampNeg < 56)) : wG d 189 (66, [.ref 101, .int x1, .int x2, .int x3], [.int xs3, .int xs2, .int xs1, .ref 107], mkH E ro) Q = wG d 189 (24, [.ref 101, .int x1, .int x2, .int (x3 + 1)], [], mkH E (uI ro 107 xs1.toNatClampNeg (xs2 + xs3))) Q := by
  refine (r_goto rfl rfl).trans ?_
  refine (r_iadd rfl rfl).trans ?_
  refine (r_iast rfl rfl rfl (by decide) b0).trans ?_
  refine (r_iinc (y := 1) rfl rfl rfl rfl rfl rfl).trans ?_
  refine (r_goto rfl rfl).trans ?_
  exact rfl

theorem en_X10_guessAt {d : Nat} {E : pEv} {ro : Nat → Nat → Int32} {Q : Option Value → pH → Prop} (s_E : oE E) {x1 : Int32} {x2 : Int32} (b0 : (¬ x1 < 0 ∧ x1.toNatClampNeg < 7)) : wX (d + 1) 190 [.ref 101, .int x1, .int x2] (mkH E ro) Q = wX d 157 [.ref 101, .int (ro 106 x1.toNatClampNeg), .int 2] (mkH E ro) (fun v h' => wG d 190 (21, [.ref 101, .int x1, .int x2, .int (ro 106 x1.toNatClampNeg)], pv v [.int (8 * (ro 106 x1.toNatClampNeg)), .ref 107], h') Q) := by
  refine (wX_in rfl (by decide)).trans ?_
  show wG d 190 (0, [.ref 101, .int x1, .int x2, .retAddr 0], [], mkH E ro) Q = _
  refine (r_aload_n rfl rfl rfl).trans ?_
  refine (r_getR (ci := 10) (sl := 11) s_E rfl rfl rfl rfl (by decide) rfl rfl).trans ?_
  refine (r_iload_n rfl rfl rfl).trans ?_
  refine (r_iald rfl rfl rfl (by decide) b0).trans ?_
  refine (r_istore_n rfl rfl rfl rfl).trans ?_
  refine (r_aload_n rfl rfl rfl).trans ?_
  refine (r_getR (ci := 10) (sl := 12) s_E rfl rfl rfl rfl (by decide) rfl rfl).trans ?_
  refine (r_bipush (v := 8) rfl rfl rfl).trans ?_
  refine (r_iload_n rfl rfl rfl).trans ?_
  refine (r_imul rfl rfl).trans ?_
  refine (r_aload_n rfl rfl rfl).trans ?_
  refine (r_iload_n rfl rfl rfl).trans ?_
  refine (r_iconst (v := 2) rfl rfl rfl).trans ?_
  exact r_inv (m := 157) (c := 10) rfl rfl rfl rfl rfl rfl rfl rfl

theorem sg_X10_guessAt_21 {d : Nat} {E : pEv} {ro : Nat → Nat → Int32} {Q : Option Value → pH → Prop} (s_E : oE E) {x1 : Int32} {x2 : Int32} {x3 : Int32} {xs1 : Int32} {xs2 : Int32} : wG d 190 (21, [.ref 101, .int x1, .int x2, .int x3], [.int xs2, .int xs1, .ref 107], mkH E ro) Q = wX d 159 [.int (xs2 &&& (x2 ^^^ (-1)))] (mkH E ro) (fun v h' => wG d 190 (28, [.ref 101, .int x1, .int x2, .int x3], pv v [.int xs1, .ref 107], h') Q) := by
  refine (r_iload_n rfl rfl rfl).trans ?_
  refine (r_iconst (v := (-1)) rfl rfl rfl).trans ?_
  refine (r_ixor rfl rfl).trans ?_
  refine (r_iand rfl rfl).trans ?_
  exact r_ins (m := 159) rfl rfl rfl rfl rfl rfl

theorem sg_X10_guessAt_28 {d : Nat} {E : pEv} {ro : Nat → Nat → Int32} {Q : Option Value → pH → Prop} (s_E : oE E) {x1 : Int32} {x2 : Int32} {x3 : Int32} {xs1 : Int32} {xs2 : Int32} (b0 : (¬ (xs1 + xs2) < 0 ∧ (xs1 + xs2).toNatClampNeg < 56)) : wG d 190 (28, [.ref 101, .int x1, .int x2, .int x3], [.int xs2, .int xs1, .ref 107], mkH E ro) Q = Q (some (.int (ro 107 (xs1 + xs2).toNatClampNeg))) (mkH E ro) := by
  refine (r_iadd rfl rfl).trans ?_
  refine (r_iald rfl rfl rfl (by decide) b0).trans ?_
  exact r_iret rfl rfl

theorem en_X10_guessedOfRow {d : Nat} {E : pEv} {ro : Nat → Nat → Int32} {Q : Option Value → pH → Prop} (s_E : oE E) : wX (d + 1) 191 [.ref 101] (mkH E ro) Q = wG d 191 (6, [.ref 101, .int 0, .int 0, .int 0], [], mkH E ro) Q := by
  refine (wX_in rfl (by decide)).trans ?_
  show wG d 191 (0, [.ref 101, .retAddr 0, .retAddr 0, .retAddr 0], [], mkH E ro) Q = _
  refine (r_iconst (v := 0) rfl rfl rfl).trans ?_
  refine (r_istore_n rfl rfl rfl rfl).trans ?_
  refine (r_iconst (v := 0) rfl rfl rfl).trans ?_
  refine (r_istore_n rfl rfl rfl rfl).trans ?_
  refine (r_iconst (v := 0) rfl rfl rfl).trans ?_
  refine (r_istore_n rfl rfl rfl rfl).trans ?_
  exact rfl

theorem sg_X10_guessedOfRow_6 {d : Nat} {E : pEv} {ro : Nat → Nat → Int32} {Q : Option Value → pH → Prop} (s_E : oE E) {x1 : Int32} {x2 : Int32} {x3 : Int32} : wG d 191 (6, [.ref 101, .int x1, .int x2, .int x3], [], mkH E ro) Q = (if x3 < (ro 102 0) then wX d 190 [.ref 101, .int x3, .int x2] (mkH E ro) (fun v h' => wG d 191 (23, [.ref 101, .int x1, .int x2, .int x3], pv v [.int x1], h') Q) else Q (some (.int x1)) (mkH E ro)) := by
  refine (r_iload_n rfl rfl rfl).trans ?_
  refine (r_aload_n rfl rfl rfl).trans ?_
  refine (r_getR (ci := 10) (sl := 0) s_E rfl rfl rfl rfl (by decide) rfl rfl).trans ?_
  refine (r_iconst (v := 0) rfl rfl rfl).trans ?_
  refine (r_iald rfl rfl rfl (by decide) (by decide)).trans ?_
  refine (r_icmp_ge rfl rfl rfl).trans ?_
  refine ite_congr rfl (fun h_0 => ?_) (fun h_0 => ?_)
  · refine (r_iload_n rfl rfl rfl).trans ?_
    refine (r_aload_n rfl rfl rfl).trans ?_
    refine (r_iload_n rfl rfl rfl).trans ?_
    refine (r_iload_n rfl rfl rfl).trans ?_
    exact r_inv (m := 190) (c := 10) rfl rfl rfl rfl rfl rfl rfl rfl
  · refine (r_iload_n rfl rfl rfl).trans ?_
    exact r_iret rfl rfl

theorem sg_X10_guessedOfRow_23 {d : Nat} {E : pEv} {ro : Nat → Nat → Int32} {Q : Option Value → pH → Prop} (s_E : oE E) {x1 : Int32} {x2 : Int32} {x3 : Int32} {xs0 : Int32} {xs1 : Int32} (b0 : (¬ x3 < 0 ∧ x3.toNatClampNeg < 7)) : wG d 191 (23, [.ref 101, .int x1, .int x2, .int x3], [.int xs1, .int xs0], mkH E ro) Q = wG d 191 (6, [.ref 101, .int (xs0 + xs1), .int (x2 ||| ((1 : Int32) <<< ((ro 106 x3.toNatClampNeg) &&& 31))), .int (x3 + 1)], [], mkH E ro) Q := by
  refine (r_iadd rfl rfl).trans ?_
  refine (r_istore_n rfl rfl rfl rfl).trans ?_
  refine (r_iload_n rfl rfl rfl).trans ?_
  refine (r_iconst (v := 1) rfl rfl rfl).trans ?_
  refine (r_aload_n rfl rfl rfl).trans ?_
  refine (r_getR (ci := 10) (sl := 11) s_E rfl rfl rfl rfl (by decide) rfl rfl).trans ?_
  refine (r_iload_n rfl rfl rfl).trans ?_
  refine (r_iald rfl rfl rfl (by decide) b0).trans ?_
  refine (r_ishl rfl rfl).trans ?_
  refine (r_ior rfl rfl).trans ?_
  refine (r_istore_n rfl rfl rfl rfl).trans ?_
  refine (r_iinc (y := 1) rfl rfl rfl rfl rfl rfl).trans ?_
  refine (r_goto rfl rfl).trans ?_
  exact rfl

theorem en_X10_handsOfRow {d : Nat} {E : pEv} {ro : Nat → Nat → Int32} {Q : Option Value → pH → Prop} (s_E : oE E) : wX (d + 1) 192 [.ref 101] (mkH E ro) Q = wG d 192 (2, [.ref 101, .int 0, .retAddr 0, .retAddr 0, .retAddr 0], [], mkH E ro) Q := by
  refine (wX_in rfl (by decide)).trans ?_
  show wG d 192 (0, [.ref 101, .retAddr 0, .retAddr 0, .retAddr 0, .retAddr 0], [], mkH E ro) Q = _
  refine (r_iconst (v := 0) rfl rfl rfl).trans ?_
  refine (r_istore_n rfl rfl rfl rfl).trans ?_
  exact rfl

theorem sg_X10_handsOfRow_2 {d : Nat} {E : pEv} {ro : Nat → Nat → Int32} {Q : Option Value → pH → Prop} (s_E : oE E) {x1 : Int32} {v2 : Value} {v3 : Value} {v4 : Value} (b0 : (x1 < 4) → (¬ x1 < 0 ∧ x1.toNatClampNeg < 4)) : wG d 192 (2, [.ref 101, .int x1, v2, v3, v4], [], mkH E ro) Q = (if x1 < 4 then wG d 192 (2, [.ref 101, .int (x1 + 1), v2, v3, v4], [], mkH E (uI ro 108 x1.toNatClampNeg (-1))) Q else wG d 192 (24, [.ref 101, .int 0, .int 0, v3, v4], [], mkH E ro) Q) := by
  refine (r_iload_n rfl rfl rfl).trans ?_
  refine (r_iconst (v := 4) rfl rfl rfl).trans ?_
  refine (r_icmp_ge rfl rfl rfl).trans ?_
  refine ite_congr rfl (fun h_0 => ?_) (fun h_0 => ?_)
  · refine (r_aload_n rfl rfl rfl).trans ?_
    refine (r_getR (ci := 10) (sl := 13) s_E rfl rfl rfl rfl (by decide) rfl rfl).trans ?_
    refine (r_iload_n rfl rfl rfl).trans ?_
    refine (r_iconst (v := (-1)) rfl rfl rfl).trans ?_
    refine (r_iast rfl rfl rfl (by decide) (b0 h_0)).trans ?_
    refine (r_iinc (y := 1) rfl rfl rfl rfl rfl rfl).trans ?_
    refine (r_goto rfl rfl).trans ?_
    exact rfl
  · refine (r_iconst (v := 0) rfl rfl rfl).trans ?_
    refine (r_istore_n rfl rfl rfl rfl).trans ?_
    refine (r_iconst (v := 0) rfl rfl rfl).trans ?_
    refine (r_istore_n rfl rfl rfl rfl).trans ?_
    exact rfl

theorem sg_X10_handsOfRow_24 {d : Nat} {E : pEv} {ro : Nat → Nat → Int32} {Q : Option Value → pH → Prop} (s_E : oE E) {x1 : Int32} {x2 : Int32} {v3 : Value} {v4 : Value} (b0 : (x2 < (ro 102 0)) → (¬ x2 < 0 ∧ x2.toNatClampNeg < 7)) : wG d 192 (24, [.ref 101, .int x1, .int x2, v3, v4], [], mkH E ro) Q = (if x2 < (ro 102 0) then wX d 157 [.ref 101, .int (ro 106 x2.toNatClampNeg), .int 5] (mkH E ro) (fun v h' => wG d 192 (45, [.ref 101, .int x1, .int x2, v3, v4], pv v [], h') Q) else Q (some (.int x1)) (mkH E ro)) := by
  refine (r_iload_n rfl rfl rfl).trans ?_
  refine (r_aload_n rfl rfl rfl).trans ?_
  refine (r_getR (ci := 10) (sl := 0) s_E rfl rfl rfl rfl (by decide) rfl rfl).trans ?_
  refine (r_iconst (v := 0) rfl rfl rfl).trans ?_
  refine (r_iald rfl rfl rfl (by decide) (by decide)).trans ?_
  refine (r_icmp_ge rfl rfl rfl).trans ?_
  refine ite_congr rfl (fun h_0 => ?_) (fun h_0 => ?_)
  · refine (r_aload_n rfl rfl rfl).trans ?_
    refine (r_aload_n rfl rfl rfl).trans ?_
    refine (r_getR (ci := 10) (sl := 11) s_E rfl rfl rfl rfl (by decide) rfl rfl).trans ?_
    refine (r_iload_n rfl rfl rfl).trans ?_
    refine (r_iald rfl rfl rfl (by decide) (b0 h_0)).trans ?_
    refine (r_iconst (v := 5) rfl rfl rfl).trans ?_
    exact r_inv (m := 157) (c := 10) rfl rfl rfl rfl rfl rfl rfl rfl
  · refine (r_iload_n rfl rfl rfl).trans ?_
    exact r_iret rfl rfl

theorem sg_X10_handsOfRow_45 {d : Nat} {E : pEv} {ro : Nat → Nat → Int32} {Q : Option Value → pH → Prop} (s_E : oE E) {x1 : Int32} {x2 : Int32} {v3 : Value} {v4 : Value} {xs0 : Int32} (b0 : (xs0 < 4) → (¬ x2 < 0 ∧ x2.toNatClampNeg < 7)) : wG d 192 (45, [.ref 101, .int x1, .int x2, v3, v4], [.int xs0], mkH E ro) Q = (if xs0 < 4 then (if (ro 102 2) = 1 then wX d 157 [.ref 101, .int (ro 106 x2.toNatClampNeg), .int 7] (mkH E ro) (fun v h' => wG d 192 (78, [.ref 101, .int x1, .int x2, .int xs0, v4], pv v [], h') Q) else wX d 157 [.ref 101, .int (ro 106 x2.toNatClampNeg), .int 6] (mkH E ro) (fun v h' => wG d 192 (78, [.ref 101, .int x1, .int x2, .int xs0, v4], pv v [], h') Q)) else wG d 192 (24, [.ref 101, .int x1, .int (x2 + 1), .int xs0, v4], [], mkH E ro) Q) := by
  refine (r_istore_n rfl rfl rfl rfl).trans ?_
  refine (r_iload_n rfl rfl rfl).trans ?_
  refine (r_iconst (v := 4) rfl rfl rfl).trans ?_
  refine (r_icmp_ge rfl rfl rfl).trans ?_
  refine ite_congr rfl (fun h_0 => ?_) (fun h_0 => ?_)
  · refine (r_aload_n rfl rfl rfl).trans ?_
    refine (r_aload_n rfl rfl rfl).trans ?_
    refine (r_getR (ci := 10) (sl := 11) s_E rfl rfl rfl rfl (by decide) rfl rfl).trans ?_
    refine (r_iload_n rfl rfl rfl).trans ?_
    refine (r_iald rfl rfl rfl (by decide) (b0 h_0)).trans ?_
    refine (r_aload_n rfl rfl rfl).trans ?_
    refine (r_getR (ci := 10) (sl := 0) s_E rfl rfl rfl rfl (by decide) rfl rfl).trans ?_
    refine (r_iconst (v := 2) rfl rfl rfl).trans ?_
    refine (r_iald rfl rfl rfl (by decide) (by decide)).trans ?_
    refine (r_iconst (v := 1) rfl rfl rfl).trans ?_
    refine (r_icmp_ne rfl rfl rfl).trans ?_
    refine ite_congr rfl (fun h_1 => ?_) (fun h_1 => ?_)
    · refine (r_bipush (v := 7) rfl rfl rfl).trans ?_
      refine (r_goto rfl rfl).trans ?_
      exact r_inv (m := 157) (c := 10) rfl rfl rfl rfl rfl rfl rfl rfl
    · refine (r_bipush (v := 6) rfl rfl rfl).trans ?_
      exact r_inv (m := 157) (c := 10) rfl rfl rfl rfl rfl rfl rfl rfl
  · refine (r_iinc (y := 1) rfl rfl rfl rfl rfl rfl).trans ?_
    refine (r_goto rfl rfl).trans ?_
    exact rfl

theorem sg_X10_handsOfRow_78 {d : Nat} {E : pEv} {ro : Nat → Nat → Int32} {Q : Option Value → pH → Prop} (s_E : oE E) {x1 : Int32} {x2 : Int32} {x3 : Int32} {v4 : Value} {xs0 : Int32} (b0 : (¬ x3 < 0 ∧ x3.toNatClampNeg < 4)) (b1 : ((ro 108 x3.toNatClampNeg) < 0) → (¬ x2 < 0 ∧ x2.toNatClampNeg < 7)) (b2 : (¬ (ro 108 x3.toNatClampNeg) < 0) → (¬ x3 < 0 ∧ x3.toNatClampNeg < 4)) (b3 : (¬ (ro 108 x3.toNatClampNeg) < 0) → ((ro 108 x3.toNatClampNeg) = xs0) → (¬ x2 < 0 ∧ x2.toNatClampNeg < 7)) (b4 : (¬ (ro 108 x3.toNatClampNeg) < 0) → (¬ (ro 108 x3.toNatClampNeg) = xs0) → (¬ x2 < 0 ∧ x2.toNatClampNeg < 7)) : wG d 192 (78, [.ref 101, .int x1, .int x2, .int x3, v4], [.int xs0], mkH E ro) Q = (if (ro 108 x3.toNatClampNeg) < 0 then (if (ro 102 2) = 1 then wX d 157 [.ref 101, .int (ro 106 x2.toNatClampNeg), .int 6] (mkH E ro) (fun v h' => wG d 192 (140, [.ref 101, .int (x1 + 0), .int x2, .int x3, .int xs0], pv v [.int x3, .ref 108], h') Q) else wX d 157 [.ref 101, .int (ro 106 x2.toNatClampNeg), .int 7] (mkH E ro) (fun v h' => wG d 192 (140, [.ref 101, .int (x1 + 0), .int x2, .int x3, .int xs0], pv v [.int x3, .ref 108], h') Q)) else (if (ro 108 x3.toNatClampNeg) = xs0 then (if (ro 102 2) = 1 then wX d 157 [.ref 101, .int (ro 106 x2.toNatClampNeg), .int 6] (mkH E ro) (fun v h' => wG d 192 (140, [.ref 101, .int (x1 + 0), .int x2, .int x3, .int xs0], pv v [.int x3, .ref 108], h') Q) else wX d 157 [.ref 101, .int (ro 106 x2.toNatClampNeg), .int 7] (mkH E ro) (fun v h' => wG d 192 (140, [.ref 101, .int (x1 + 0), .int x2, .int x3, .int xs0], pv v [.int x3, .ref 108], h') Q)) else (if (ro 102 2) = 1 then wX d 157 [.ref 101, .int (ro 106 x2.toNatClampNeg), .int 6] (mkH E ro) (fun v h' => wG d 192 (140, [.ref 101, .int (x1 + 1), .int x2, .int x3, .int xs0], pv v [.int x3, .ref 108], h') Q) else wX d 157 [.ref 101, .int (ro 106 x2.toNatClampNeg), .int 7] (mkH E ro) (fun v h' => wG d 192 (140, [.ref 101, .int (x1 + 1), .int x2, .int x3, .int xs0], pv v [.int x3, .ref 108], h') Q)))) := by
  refine (r_istore rfl rfl rfl rfl).trans ?_
  refine (r_iload_n rfl rfl rfl).trans ?_
  refine (r_aload_n rfl rfl rfl).trans ?_
  refine (r_getR (ci := 10) (sl := 13) s_E rfl rfl rfl rfl (by decide) rfl rfl).trans ?_
  refine (r_iload_n rfl rfl rfl).trans ?_
  refine (r_iald rfl rfl rfl (by decide) b0).trans ?_
  refine (r_if_lt rfl rfl rfl).trans ?_
  refine ite_congr rfl (fun h_0 => ?_) (fun h_0 => ?_)
  · refine (r_iconst (v := 0) rfl rfl rfl).trans ?_
    refine (r_iadd rfl rfl).trans ?_
    refine (r_istore_n rfl rfl rfl rfl).trans ?_
    refine (r_aload_n rfl rfl rfl).trans ?_
    refine (r_getR (ci := 10) (sl := 13) s_E rfl rfl rfl rfl (by decide) rfl rfl).trans ?_
    refine (r_iload_n rfl rfl rfl).trans ?_
    refine (r_aload_n rfl rfl rfl).trans ?_
    refine (r_aload_n rfl rfl rfl).trans ?_
    refine (r_getR (ci := 10) (sl := 11) s_E rfl rfl rfl rfl (by decide) rfl rfl).trans ?_
    refine (r_iload_n rfl rfl rfl).trans ?_
    refine (r_iald rfl rfl rfl (by decide) (b1 h_0)).trans ?_
    refine (r_aload_n rfl rfl rfl).trans ?_
    refine (r_getR (ci := 10) (sl := 0) s_E rfl rfl rfl rfl (by decide) rfl rfl).trans ?_
    refine (r_iconst (v := 2) rfl rfl rfl).trans ?_
    refine (r_iald rfl rfl rfl (by decide) (by decide)).trans ?_
    refine (r_iconst (v := 1) rfl rfl rfl).trans ?_
    refine (r_icmp_ne rfl rfl rfl).trans ?_
    refine ite_congr rfl (fun h_1 => ?_) (fun h_1 => ?_)
    · refine (r_bipush (v := 6) rfl rfl rfl).trans ?_
      refine (r_goto rfl rfl).trans ?_
      exact r_inv (m := 157) (c := 10) rfl rfl rfl rfl rfl rfl rfl rfl
    · refine (r_bipush (v := 7) rfl rfl rfl).trans ?_
      exact r_inv (m := 157) (c := 10) rfl rfl rfl rfl rfl rfl rfl rfl
  · refine (r_aload_n rfl rfl rfl).trans ?_
    refine (r_getR (ci := 10) (sl := 13) s_E rfl rfl rfl rfl (by decide) rfl rfl).trans ?_
    refine (r_iload_n rfl rfl rfl).trans ?_
    refine (r_iald rfl rfl rfl (by decide) (b2 h_0)).trans ?_
    refine (r_iload rfl rfl rfl).trans ?_
    refine (r_icmp_eq rfl rfl rfl).trans ?_
    refine ite_congr rfl (fun h_1 => ?_) (fun h_1 => ?_)
    · refine (r_iconst (v := 0) rfl rfl rfl).trans ?_
      refine (r_iadd rfl rfl).trans ?_
      refine (r_istore_n rfl rfl rfl rfl).trans ?_
      refine (r_aload_n rfl rfl rfl).trans ?_
      refine (r_getR (ci := 10) (sl := 13) s_E rfl rfl rfl rfl (by decide) rfl rfl).trans ?_
      refine (r_iload_n rfl rfl rfl).trans ?_
      refine (r_aload_n rfl rfl rfl).trans ?_
      refine (r_aload_n rfl rfl rfl).trans ?_
      refine (r_getR (ci := 10) (sl := 11) s_E rfl rfl rfl rfl (by decide) rfl rfl).trans ?_
      refine (r_iload_n rfl rfl rfl).trans ?_
      refine (r_iald rfl rfl rfl (by decide) (b3 h_0 h_1)).trans ?_
      refine (r_aload_n rfl rfl rfl).trans ?_
      refine (r_getR (ci := 10) (sl := 0) s_E rfl rfl rfl rfl (by decide) rfl rfl).trans ?_
      refine (r_iconst (v := 2) rfl rfl rfl).trans ?_
      refine (r_iald rfl rfl rfl (by decide) (by decide)).trans ?_
      refine (r_iconst (v := 1) rfl rfl rfl).trans ?_
      refine (r_icmp_ne rfl rfl rfl).trans ?_
      refine ite_congr rfl (fun h_2 => ?_) (fun h_2 => ?_)
      · refine (r_bipush (v := 6) rfl rfl rfl).trans ?_
        refine (r_goto rfl rfl).trans ?_
        exact r_inv (m := 157) (c := 10) rfl rfl rfl rfl rfl rfl rfl rfl
      · refine (r_bipush (v := 7) rfl rfl rfl).trans ?_
        exact r_inv (m := 157) (c := 10) rfl rfl rfl rfl rfl rfl rfl rfl
    · refine (r_iconst (v := 1) rfl rfl rfl).trans ?_
      refine (r_goto rfl rfl).trans ?_
      refine (r_iadd rfl rfl).trans ?_
      refine (r_istore_n rfl rfl rfl rfl).trans ?_
      refine (r_aload_n rfl rfl rfl).trans ?_
      refine (r_getR (ci := 10) (sl := 13) s_E rfl rfl rfl rfl (by decide) rfl rfl).trans ?_
      refine (r_iload_n rfl rfl rfl).trans ?_
      refine (r_aload_n rfl rfl rfl).trans ?_
      refine (r_aload_n rfl rfl rfl).trans ?_
      refine (r_getR (ci := 10) (sl := 11) s_E rfl rfl rfl rfl (by decide) rfl rfl).trans ?_
      refine (r_iload_n rfl rfl rfl).trans ?_
      refine (r_iald rfl rfl rfl (by decide) (b4 h_0 h_1)).trans ?_
      refine (r_aload_n rfl rfl rfl).trans ?_
      refine (r_getR (ci := 10) (sl := 0) s_E rfl rfl rfl rfl (by decide) rfl rfl).trans ?_
      refine (r_iconst (v := 2) rfl rfl rfl).trans ?_
      refine (r_iald rfl rfl rfl (by decide) (by decide)).trans ?_
      refine (r_iconst (v := 1) rfl rfl rfl).trans ?_
      refine (r_icmp_ne rfl rfl rfl).trans ?_
      refine ite_congr rfl (fun h_2 => ?_) (fun h_2 => ?_)
      · refine (r_bipush (v := 6) rfl rfl rfl).trans ?_
        refine (r_goto rfl rfl).trans ?_
        exact r_inv (m := 157) (c := 10) rfl rfl rfl rfl rfl rfl rfl rfl
      · refine (r_bipush (v := 7) rfl rfl rfl).trans ?_
        exact r_inv (m := 157) (c := 10) rfl rfl rfl rfl rfl rfl rfl rfl

theorem sg_X10_handsOfRow_140 {d : Nat} {E : pEv} {ro : Nat → Nat → Int32} {Q : Option Value → pH → Prop} (s_E : oE E) {x1 : Int32} {x2 : Int32} {x3 : Int32} {x4 : Int32} {xs1 : Int32} {xs2 : Int32} (b0 : (¬ xs1 < 0 ∧ xs1.toNatClampNeg < 4)) : wG d 192 (140, [.ref 101, .int x1, .int x2, .int x3, .int x4], [.int xs2, .int xs1, .ref 108], mkH E ro) Q = wG d 192 (24, [.ref 101, .int x1, .int (x2 + 1), .int x3, .int x4], [], mkH E (uI ro 108 xs1.toNatClampNeg xs2)) Q := by
  refine (r_iast rfl rfl rfl (by decide) b0).trans ?_
  refine (r_iinc (y := 1) rfl rfl rfl rfl rfl rfl).trans ?_
  refine (r_goto rfl rfl).trans ?_
  exact rfl

theorem en_X10_guessed {d : Nat} {E : pEv} {ro : Nat → Nat → Int32} {Q : Option Value → pH → Prop} (s_E : oE E) : wX (d + 1) 193 [.ref 101] (mkH E ro) Q = wX d 188 [.ref 101] (mkH E ro) (fun v h' => wG d 193 (4, [.ref 101], pv v [], h') Q) := by
  refine (wX_in rfl (by decide)).trans ?_
  show wG d 193 (0, [.ref 101], [], mkH E ro) Q = _
  refine (r_aload_n rfl rfl rfl).trans ?_
  exact r_inv (m := 188) (c := 10) rfl rfl rfl rfl rfl rfl rfl rfl

theorem sg_X10_guessed_4 {d : Nat} {E : pEv} {ro : Nat → Nat → Int32} {Q : Option Value → pH → Prop} (s_E : oE E) : wG d 193 (4, [.ref 101], [], mkH E ro) Q = wX d 189 [.ref 101] (mkH E ro) (fun v h' => wG d 193 (8, [.ref 101], pv v [], h') Q) := by
  refine (r_aload_n rfl rfl rfl).trans ?_
  exact r_inv (m := 189) (c := 10) rfl rfl rfl rfl rfl rfl rfl rfl

theorem sg_X10_guessed_8 {d : Nat} {E : pEv} {ro : Nat → Nat → Int32} {Q : Option Value → pH → Prop} (s_E : oE E) : wG d 193 (8, [.ref 101], [], mkH E ro) Q = wX d 191 [.ref 101] (mkH E ro) (fun v h' => wG d 193 (12, [.ref 101], pv v [], h') Q) := by
  refine (r_aload_n rfl rfl rfl).trans ?_
  exact r_inv (m := 191) (c := 10) rfl rfl rfl rfl rfl rfl rfl rfl

theorem sg_X10_guessed_12 {d : Nat} {E : pEv} {ro : Nat → Nat → Int32} {Q : Option Value → pH → Prop} (s_E : oE E) {xs0 : Int32} : wG d 193 (12, [.ref 101], [.int xs0], mkH E ro) Q = Q (some (.int xs0)) (mkH E ro) := by
  exact r_iret rfl rfl

theorem en_X10_hands {d : Nat} {E : pEv} {ro : Nat → Nat → Int32} {Q : Option Value → pH → Prop} (s_E : oE E) : wX (d + 1) 194 [.ref 101] (mkH E ro) Q = wX d 188 [.ref 101] (mkH E ro) (fun v h' => wG d 194 (4, [.ref 101], pv v [], h') Q) := by
  refine (wX_in rfl (by decide)).trans ?_
  show wG d 194 (0, [.ref 101], [], mkH E ro) Q = _
  refine (r_aload_n rfl rfl rfl).trans ?_
  exact r_inv (m := 188) (c := 10) rfl rfl rfl rfl rfl rfl rfl rfl

theorem sg_X10_hands_4 {d : Nat} {E : pEv} {ro : Nat → Nat → Int32} {Q : Option Value → pH → Prop} (s_E : oE E) : wG d 194 (4, [.ref 101], [], mkH E ro) Q = wX d 192 [.ref 101] (mkH E ro) (fun v h' => wG d 194 (8, [.ref 101], pv v [], h') Q) := by
  refine (r_aload_n rfl rfl rfl).trans ?_
  exact r_inv (m := 192) (c := 10) rfl rfl rfl rfl rfl rfl rfl rfl

theorem sg_X10_hands_8 {d : Nat} {E : pEv} {ro : Nat → Nat → Int32} {Q : Option Value → pH → Prop} (s_E : oE E) {xs0 : Int32} : wG d 194 (8, [.ref 101], [.int xs0], mkH E ro) Q = Q (some (.int xs0)) (mkH E ro) := by
  exact r_iret rfl rfl

theorem en_X10_rises {d : Nat} {E : pEv} {ro : Nat → Nat → Int32} {Q : Option Value → pH → Prop} (s_E : oE E) : wX (d + 1) 195 [.ref 101] (mkH E ro) Q = wX d 177 [.ref 101] (mkH E ro) (fun v h' => wG d 195 (4, [.ref 101, .retAddr 0, .retAddr 0, .retAddr 0, .retAddr 0, .retAddr 0, .retAddr 0], pv v [], h') Q) := by
  refine (wX_in rfl (by decide)).trans ?_
  show wG d 195 (0, [.ref 101, .retAddr 0, .retAddr 0, .retAddr 0, .retAddr 0, .retAddr 0, .retAddr 0], [], mkH E ro) Q = _
  refine (r_aload_n rfl rfl rfl).trans ?_
  exact r_inv (m := 177) (c := 10) rfl rfl rfl rfl rfl rfl rfl rfl

theorem sg_X10_rises_4 {d : Nat} {E : pEv} {ro : Nat → Nat → Int32} {Q : Option Value → pH → Prop} (s_E : oE E) {v1 : Value} {v2 : Value} {v3 : Value} {v4 : Value} {v5 : Value} {v6 : Value} {xs0 : Int32} : wG d 195 (4, [.ref 101, v1, v2, v3, v4, v5, v6], [.int xs0], mkH E ro) Q = wG d 195 (12, [.ref 101, .int xs0, .int 0, .int 0, .int 0, v5, v6], [], mkH E ro) Q := by
  refine (r_istore_n rfl rfl rfl rfl).trans ?_
  refine (r_iconst (v := 0) rfl rfl rfl).trans ?_
  refine (r_istore_n rfl rfl rfl rfl).trans ?_
  refine (r_iconst (v := 0) rfl rfl rfl).trans ?_
  refine (r_istore_n rfl rfl rfl rfl).trans ?_
  refine (r_iconst (v := 0) rfl rfl rfl).trans ?_
  refine (r_istore rfl rfl rfl rfl).trans ?_
  exact rfl

theorem sg_X10_rises_12 {d : Nat} {E : pEv} {ro : Nat → Nat → Int32} {Q : Option Value → pH → Prop} (s_E : oE E) {x1 : Int32} {x2 : Int32} {x3 : Int32} {x4 : Int32} {v5 : Value} {v6 : Value} (b0 : (x4 < (ro 102 0)) → (¬ (80 + x4) < 0 ∧ (80 + x4).toNatClampNeg < 264)) : wG d 195 (12, [.ref 101, .int x1, .int x2, .int x3, .int x4, v5, v6], [], mkH E ro) Q = (if x4 < (ro 102 0) then wX d 157 [.ref 101, .int (ro 102 (80 + x4).toNatClampNeg), .int 4] (mkH E ro) (fun v h' => wG d 195 (43, [.ref 101, .int x1, .int x2, .int x3, .int x4, .int (ro 102 (80 + x4).toNatClampNeg), v6], pv v [.int x3], h') Q) else Q (some (.int x3)) (mkH E ro)) := by
  refine (r_iload rfl rfl rfl).trans ?_
  refine (r_aload_n rfl rfl rfl).trans ?_
  refine (r_getR (ci := 10) (sl := 0) s_E rfl rfl rfl rfl (by decide) rfl rfl).trans ?_
  refine (r_iconst (v := 0) rfl rfl rfl).trans ?_
  refine (r_iald rfl rfl rfl (by decide) (by decide)).trans ?_
  refine (r_icmp_ge rfl rfl rfl).trans ?_
  refine ite_congr rfl (fun h_0 => ?_) (fun h_0 => ?_)
  · refine (r_aload_n rfl rfl rfl).trans ?_
    refine (r_getR (ci := 10) (sl := 0) s_E rfl rfl rfl rfl (by decide) rfl rfl).trans ?_
    refine (r_bipush (v := 80) rfl rfl rfl).trans ?_
    refine (r_iload rfl rfl rfl).trans ?_
    refine (r_iadd rfl rfl).trans ?_
    refine (r_iald rfl rfl rfl (by decide) (b0 h_0)).trans ?_
    refine (r_istore rfl rfl rfl rfl).trans ?_
    refine (r_iload_n rfl rfl rfl).trans ?_
    refine (r_aload_n rfl rfl rfl).trans ?_
    refine (r_iload rfl rfl rfl).trans ?_
    refine (r_iconst (v := 4) rfl rfl rfl).trans ?_
    exact r_inv (m := 157) (c := 10) rfl rfl rfl rfl rfl rfl rfl rfl
  · refine (r_iload_n rfl rfl rfl).trans ?_
    exact r_iret rfl rfl

theorem sg_X10_rises_43 {d : Nat} {E : pEv} {ro : Nat → Nat → Int32} {Q : Option Value → pH → Prop} (s_E : oE E) {x1 : Int32} {x2 : Int32} {x3 : Int32} {x4 : Int32} {x5 : Int32} {v6 : Value} {xs0 : Int32} {xs1 : Int32} : wG d 195 (43, [.ref 101, .int x1, .int x2, .int x3, .int x4, .int x5, v6], [.int xs1, .int xs0], mkH E ro) Q = wX d 159 [.int (xs1 &&& x2)] (mkH E ro) (fun v h' => wG d 195 (48, [.ref 101, .int x1, .int x2, .int x3, .int x4, .int x5, v6], pv v [.int xs0], h') Q) := by
  refine (r_iload_n rfl rfl rfl).trans ?_
  refine (r_iand rfl rfl).trans ?_
  exact r_ins (m := 159) rfl rfl rfl rfl rfl rfl

theorem sg_X10_rises_48 {d : Nat} {E : pEv} {ro : Nat → Nat → Int32} {Q : Option Value → pH → Prop} (s_E : oE E) {x1 : Int32} {x2 : Int32} {x3 : Int32} {x4 : Int32} {x5 : Int32} {v6 : Value} {xs0 : Int32} {xs1 : Int32} : wG d 195 (48, [.ref 101, .int x1, .int x2, .int x3, .int x4, .int x5, v6], [.int xs1, .int xs0], mkH E ro) Q = wX d 179 [.ref 101, .int x5, .int x1] (mkH E ro) (fun v h' => wG d 195 (57, [.ref 101, .int x1, .int x2, .int (xs0 + xs1), .int x4, .int x5, v6], pv v [], h') Q) := by
  refine (r_iadd rfl rfl).trans ?_
  refine (r_istore_n rfl rfl rfl rfl).trans ?_
  refine (r_aload_n rfl rfl rfl).trans ?_
  refine (r_iload rfl rfl rfl).trans ?_
  refine (r_iload_n rfl rfl rfl).trans ?_
  exact r_inv (m := 179) (c := 10) rfl rfl rfl rfl rfl rfl rfl rfl

theorem sg_X10_rises_57 {d : Nat} {E : pEv} {ro : Nat → Nat → Int32} {Q : Option Value → pH → Prop} (s_E : oE E) {x1 : Int32} {x2 : Int32} {x3 : Int32} {x4 : Int32} {x5 : Int32} {v6 : Value} {xs0 : Int32} : wG d 195 (57, [.ref 101, .int x1, .int x2, .int x3, .int x4, .int x5, v6], [.int xs0], mkH E ro) Q = (if xs0 < 0 then wG d 195 (12, [.ref 101, .int x1, .int (x2 ||| 0), .int x3, .int (x4 + 1), .int x5, .int xs0], [], mkH E ro) Q else wG d 195 (12, [.ref 101, .int x1, .int (x2 ||| ((1 : Int32) <<< (xs0 &&& 31))), .int x3, .int (x4 + 1), .int x5, .int xs0], [], mkH E ro) Q) := by
  refine (r_istore rfl rfl rfl rfl).trans ?_
  refine (r_iload_n rfl rfl rfl).trans ?_
  refine (r_iload rfl rfl rfl).trans ?_
  refine (r_if_lt rfl rfl rfl).trans ?_
  refine ite_congr rfl (fun h_0 => ?_) (fun h_0 => ?_)
  · refine (r_iconst (v := 0) rfl rfl rfl).trans ?_
    refine (r_ior rfl rfl).trans ?_
    refine (r_istore_n rfl rfl rfl rfl).trans ?_
    refine (r_iinc (y := 1) rfl rfl rfl rfl rfl rfl).trans ?_
    refine (r_goto rfl rfl).trans ?_
    exact rfl
  · refine (r_iconst (v := 1) rfl rfl rfl).trans ?_
    refine (r_iload rfl rfl rfl).trans ?_
    refine (r_ishl rfl rfl).trans ?_
    refine (r_goto rfl rfl).trans ?_
    refine (r_ior rfl rfl).trans ?_
    refine (r_istore_n rfl rfl rfl rfl).trans ?_
    refine (r_iinc (y := 1) rfl rfl rfl rfl rfl rfl).trans ?_
    refine (r_goto rfl rfl).trans ?_
    exact rfl

theorem en_X10_given {d : Nat} {E : pEv} {ro : Nat → Nat → Int32} {Q : Option Value → pH → Prop} (s_E : oE E) {x1 : Int32} : wX (d + 1) 196 [.ref 101, .int x1] (mkH E ro) Q = wX d 154 [.long x1.toInt64, .long 0, .long (((ro 102 0) - 1).toInt64)] (mkH E ro) (fun v h' => wG d 196 (15, [.ref 101, .int x1], pv v [], h') Q) := by
  refine (wX_in rfl (by decide)).trans ?_
  show wG d 196 (0, [.ref 101, .int x1], [], mkH E ro) Q = _
  refine (r_iload_n rfl rfl rfl).trans ?_
  refine (r_i2l rfl rfl).trans ?_
  refine (r_lconst (w := 0) rfl rfl rfl).trans ?_
  refine (r_aload_n rfl rfl rfl).trans ?_
  refine (r_getR (ci := 10) (sl := 0) s_E rfl rfl rfl rfl (by decide) rfl rfl).trans ?_
  refine (r_iconst (v := 0) rfl rfl rfl).trans ?_
  refine (r_iald rfl rfl rfl (by decide) (by decide)).trans ?_
  refine (r_iconst (v := 1) rfl rfl rfl).trans ?_
  refine (r_isub rfl rfl).trans ?_
  refine (r_i2l rfl rfl).trans ?_
  exact r_ins (m := 154) rfl rfl rfl rfl rfl rfl

theorem sg_X10_given_15 {d : Nat} {E : pEv} {ro : Nat → Nat → Int32} {Q : Option Value → pH → Prop} (s_E : oE E) {x1 : Int32} {xs0 : Int32} (b0 : (¬ xs0 = 0) → (¬ (80 + x1) < 0 ∧ (80 + x1).toNatClampNeg < 264)) : wG d 196 (15, [.ref 101, .int x1], [.int xs0], mkH E ro) Q = (if xs0 = 0 then wX d 153 [.ref 101, .int 1] (mkH E ro) (fun v h' => wG d 196 (35, [.ref 101, .int x1], pv v [], h') Q) else Q (some (.int (ro 102 (80 + x1).toNatClampNeg))) (mkH E ro)) := by
  refine (r_if_eq rfl rfl rfl).trans ?_
  refine ite_congr rfl (fun h_0 => ?_) (fun h_0 => ?_)
  · refine (r_aload_n rfl rfl rfl).trans ?_
    refine (r_iconst (v := 1) rfl rfl rfl).trans ?_
    exact r_inv (m := 153) (c := 10) rfl rfl rfl rfl rfl rfl rfl rfl
  · refine (r_aload_n rfl rfl rfl).trans ?_
    refine (r_getR (ci := 10) (sl := 0) s_E rfl rfl rfl rfl (by decide) rfl rfl).trans ?_
    refine (r_bipush (v := 80) rfl rfl rfl).trans ?_
    refine (r_iload_n rfl rfl rfl).trans ?_
    refine (r_iadd rfl rfl).trans ?_
    refine (r_iald rfl rfl rfl (by decide) (b0 h_0)).trans ?_
    refine (r_goto rfl rfl).trans ?_
    exact r_iret rfl rfl

theorem sg_X10_given_35 {d : Nat} {E : pEv} {ro : Nat → Nat → Int32} {Q : Option Value → pH → Prop} (s_E : oE E) {x1 : Int32} {xs0 : Int32} : wG d 196 (35, [.ref 101, .int x1], [.int xs0], mkH E ro) Q = Q (some (.int xs0)) (mkH E ro) := by
  exact r_iret rfl rfl

theorem en_X10_placeOf {d : Nat} {E : pEv} {ro : Nat → Nat → Int32} {Q : Option Value → pH → Prop} (s_E : oE E) {x1 : Int32} : wX (d + 1) 197 [.ref 101, .int x1] (mkH E ro) Q = wG d 197 (2, [.ref 101, .int x1, .int 0], [], mkH E ro) Q := by
  refine (wX_in rfl (by decide)).trans ?_
  show wG d 197 (0, [.ref 101, .int x1, .retAddr 0], [], mkH E ro) Q = _
  refine (r_iconst (v := 0) rfl rfl rfl).trans ?_
  refine (r_istore_n rfl rfl rfl rfl).trans ?_
  exact rfl

theorem sg_X10_placeOf_2 {d : Nat} {E : pEv} {ro : Nat → Nat → Int32} {Q : Option Value → pH → Prop} (s_E : oE E) {x1 : Int32} {x2 : Int32} (b0 : (¬ (80 + x2) < 0 ∧ (80 + x2).toNatClampNeg < 264)) : wG d 197 (2, [.ref 101, .int x1, .int x2], [], mkH E ro) Q = (if (ro 102 (80 + x2).toNatClampNeg) = x1 then Q (some (.int x2)) (mkH E ro) else wG d 197 (2, [.ref 101, .int x1, .int (x2 + 1)], [], mkH E ro) Q) := by
  refine (r_aload_n rfl rfl rfl).trans ?_
  refine (r_getR (ci := 10) (sl := 0) s_E rfl rfl rfl rfl (by decide) rfl rfl).trans ?_
  refine (r_bipush (v := 80) rfl rfl rfl).trans ?_
  refine (r_iload_n rfl rfl rfl).trans ?_
  refine (r_iadd rfl rfl).trans ?_
  refine (r_iald rfl rfl rfl (by decide) b0).trans ?_
  refine (r_iload_n rfl rfl rfl).trans ?_
  refine (r_icmp_eq rfl rfl rfl).trans ?_
  refine ite_congr rfl (fun h_0 => ?_) (fun h_0 => ?_)
  · refine (r_iload_n rfl rfl rfl).trans ?_
    exact r_iret rfl rfl
  · refine (r_iinc (y := 1) rfl rfl rfl rfl rfl rfl).trans ?_
    refine (r_goto rfl rfl).trans ?_
    exact rfl

theorem en_X10_place {d : Nat} {E : pEv} {ro : Nat → Nat → Int32} {Q : Option Value → pH → Prop} (s_E : oE E) {x1 : Int32} {x2 : Int32} : wX (d + 1) 198 [.ref 101, .int x1, .int x2] (mkH E ro) Q = wX d 156 [.ref 101, .int x1] (mkH E ro) (fun v h' => wG d 198 (5, [.ref 101, .int x1, .int x2, .retAddr 0, .retAddr 0], pv v [], h') Q) := by
  refine (wX_in rfl (by decide)).trans ?_
  show wG d 198 (0, [.ref 101, .int x1, .int x2, .retAddr 0, .retAddr 0], [], mkH E ro) Q = _
  refine (r_aload_n rfl rfl rfl).trans ?_
  refine (r_iload_n rfl rfl rfl).trans ?_
  exact r_inv (m := 156) (c := 10) rfl rfl rfl rfl rfl rfl rfl rfl

theorem sg_X10_place_5 {d : Nat} {E : pEv} {ro : Nat → Nat → Int32} {Q : Option Value → pH → Prop} (s_E : oE E) {x1 : Int32} {x2 : Int32} {v3 : Value} {v4 : Value} {xs0 : Int32} : wG d 198 (5, [.ref 101, .int x1, .int x2, v3, v4], [.int xs0], mkH E ro) Q = (if xs0 = 0 then wX d 153 [.ref 101, .int 1] (mkH E ro) (fun v h' => wG d 198 (31, [.ref 101, .int x1, .int x2, v3, v4], pv v [], h') Q) else wX d 154 [.long x2.toInt64, .long 0, .long (((ro 102 0) - 1).toInt64)] (mkH E ro) (fun v h' => wG d 198 (23, [.ref 101, .int x1, .int x2, v3, v4], pv v [], h') Q)) := by
  refine (r_if_eq rfl rfl rfl).trans ?_
  refine ite_congr rfl (fun h_0 => ?_) (fun h_0 => ?_)
  · refine (r_aload_n rfl rfl rfl).trans ?_
    refine (r_iconst (v := 1) rfl rfl rfl).trans ?_
    exact r_inv (m := 153) (c := 10) rfl rfl rfl rfl rfl rfl rfl rfl
  · refine (r_iload_n rfl rfl rfl).trans ?_
    refine (r_i2l rfl rfl).trans ?_
    refine (r_lconst (w := 0) rfl rfl rfl).trans ?_
    refine (r_aload_n rfl rfl rfl).trans ?_
    refine (r_getR (ci := 10) (sl := 0) s_E rfl rfl rfl rfl (by decide) rfl rfl).trans ?_
    refine (r_iconst (v := 0) rfl rfl rfl).trans ?_
    refine (r_iald rfl rfl rfl (by decide) (by decide)).trans ?_
    refine (r_iconst (v := 1) rfl rfl rfl).trans ?_
    refine (r_isub rfl rfl).trans ?_
    refine (r_i2l rfl rfl).trans ?_
    exact r_ins (m := 154) rfl rfl rfl rfl rfl rfl

theorem sg_X10_place_23 {d : Nat} {E : pEv} {ro : Nat → Nat → Int32} {Q : Option Value → pH → Prop} (s_E : oE E) {x1 : Int32} {x2 : Int32} {v3 : Value} {v4 : Value} {xs0 : Int32} : wG d 198 (23, [.ref 101, .int x1, .int x2, v3, v4], [.int xs0], mkH E ro) Q = (if xs0 = 0 then wX d 153 [.ref 101, .int 1] (mkH E ro) (fun v h' => wG d 198 (31, [.ref 101, .int x1, .int x2, v3, v4], pv v [], h') Q) else wX d 197 [.ref 101, .int x1] (mkH E ro) (fun v h' => wG d 198 (37, [.ref 101, .int x1, .int x2, v3, v4], pv v [], h') Q)) := by
  refine (r_if_ne rfl rfl rfl).trans ?_
  refine ite_congr rfl (fun h_0 => ?_) (fun h_0 => ?_)
  · refine (r_aload_n rfl rfl rfl).trans ?_
    refine (r_iconst (v := 1) rfl rfl rfl).trans ?_
    exact r_inv (m := 153) (c := 10) rfl rfl rfl rfl rfl rfl rfl rfl
  · refine (r_aload_n rfl rfl rfl).trans ?_
    refine (r_iload_n rfl rfl rfl).trans ?_
    exact r_inv (m := 197) (c := 10) rfl rfl rfl rfl rfl rfl rfl rfl

theorem sg_X10_place_31 {d : Nat} {E : pEv} {ro : Nat → Nat → Int32} {Q : Option Value → pH → Prop} (s_E : oE E) {x1 : Int32} {x2 : Int32} {v3 : Value} {v4 : Value} {xs0 : Int32} : wG d 198 (31, [.ref 101, .int x1, .int x2, v3, v4], [.int xs0], mkH E ro) Q = Q (some (.int xs0)) (mkH E ro) := by
  exact r_iret rfl rfl

theorem sg_X10_place_37 {d : Nat} {E : pEv} {ro : Nat → Nat → Int32} {Q : Option Value → pH → Prop} (s_E : oE E) {x1 : Int32} {x2 : Int32} {v3 : Value} {v4 : Value} {xs0 : Int32} : wG d 198 (37, [.ref 101, .int x1, .int x2, v3, v4], [.int xs0], mkH E ro) Q = wG d 198 (41, [.ref 101, .int x1, .int x2, .int xs0, .int xs0], [], mkH E ro) Q := by
  refine (r_istore_n rfl rfl rfl rfl).trans ?_
  refine (r_iload_n rfl rfl rfl).trans ?_
  refine (r_istore rfl rfl rfl rfl).trans ?_
  exact rfl

theorem sg_X10_place_41 {d : Nat} {E : pEv} {ro : Nat → Nat → Int32} {Q : Option Value → pH → Prop} (s_E : oE E) {x1 : Int32} {x2 : Int32} {x3 : Int32} {x4 : Int32} (b0 : (x4 < x2) → (¬ ((80 + x4) + 1) < 0 ∧ ((80 + x4) + 1).toNatClampNeg < 264)) (b1 : (x4 < x2) → (¬ (80 + x4) < 0 ∧ (80 + x4).toNatClampNeg < 264)) : wG d 198 (41, [.ref 101, .int x1, .int x2, .int x3, .int x4], [], mkH E ro) Q = (if x4 < x2 then wG d 198 (41, [.ref 101, .int x1, .int x2, .int x3, .int (x4 + 1)], [], mkH E (uI ro 102 (80 + x4).toNatClampNeg (ro 102 ((80 + x4) + 1).toNatClampNeg))) Q else wG d 198 (78, [.ref 101, .int x1, .int x2, .int x3, .int x3], [], mkH E ro) Q) := by
  refine (r_iload rfl rfl rfl).trans ?_
  refine (r_iload_n rfl rfl rfl).trans ?_
  refine (r_icmp_ge rfl rfl rfl).trans ?_
  refine ite_congr rfl (fun h_0 => ?_) (fun h_0 => ?_)
  · refine (r_aload_n rfl rfl rfl).trans ?_
    refine (r_getR (ci := 10) (sl := 0) s_E rfl rfl rfl rfl (by decide) rfl rfl).trans ?_
    refine (r_bipush (v := 80) rfl rfl rfl).trans ?_
    refine (r_iload rfl rfl rfl).trans ?_
    refine (r_iadd rfl rfl).trans ?_
    refine (r_aload_n rfl rfl rfl).trans ?_
    refine (r_getR (ci := 10) (sl := 0) s_E rfl rfl rfl rfl (by decide) rfl rfl).trans ?_
    refine (r_bipush (v := 80) rfl rfl rfl).trans ?_
    refine (r_iload rfl rfl rfl).trans ?_
    refine (r_iadd rfl rfl).trans ?_
    refine (r_iconst (v := 1) rfl rfl rfl).trans ?_
    refine (r_iadd rfl rfl).trans ?_
    refine (r_iald rfl rfl rfl (by decide) (b0 h_0)).trans ?_
    refine (r_iast rfl rfl rfl (by decide) (b1 h_0)).trans ?_
    refine (r_iinc (y := 1) rfl rfl rfl rfl rfl rfl).trans ?_
    refine (r_goto rfl rfl).trans ?_
    exact rfl
  · refine (r_iload_n rfl rfl rfl).trans ?_
    refine (r_istore rfl rfl rfl rfl).trans ?_
    exact rfl

theorem sg_X10_place_78 {d : Nat} {E : pEv} {ro : Nat → Nat → Int32} {Q : Option Value → pH → Prop} (s_E : oE E) {x1 : Int32} {x2 : Int32} {x3 : Int32} {x4 : Int32} (b0 : (x2 < x4) → (¬ ((80 + x4) - 1) < 0 ∧ ((80 + x4) - 1).toNatClampNeg < 264)) (b1 : (x2 < x4) → (¬ (80 + x4) < 0 ∧ (80 + x4).toNatClampNeg < 264)) (b2 : (¬ x2 < x4) → (¬ (80 + x2) < 0 ∧ (80 + x2).toNatClampNeg < 264)) : wG d 198 (78, [.ref 101, .int x1, .int x2, .int x3, .int x4], [], mkH E ro) Q = (if x2 < x4 then wG d 198 (78, [.ref 101, .int x1, .int x2, .int x3, .int (x4 + (-1))], [], mkH E (uI ro 102 (80 + x4).toNatClampNeg (ro 102 ((80 + x4) - 1).toNatClampNeg))) Q else Q (some (.int x3)) (mkH E (uI ro 102 (80 + x2).toNatClampNeg x1))) := by
  refine (r_iload rfl rfl rfl).trans ?_
  refine (r_iload_n rfl rfl rfl).trans ?_
  refine (r_icmp_le rfl rfl rfl).trans ?_
  refine ite_congr rfl (fun h_0 => ?_) (fun h_0 => ?_)
  · refine (r_aload_n rfl rfl rfl).trans ?_
    refine (r_getR (ci := 10) (sl := 0) s_E rfl rfl rfl rfl (by decide) rfl rfl).trans ?_
    refine (r_bipush (v := 80) rfl rfl rfl).trans ?_
    refine (r_iload rfl rfl rfl).trans ?_
    refine (r_iadd rfl rfl).trans ?_
    refine (r_aload_n rfl rfl rfl).trans ?_
    refine (r_getR (ci := 10) (sl := 0) s_E rfl rfl rfl rfl (by decide) rfl rfl).trans ?_
    refine (r_bipush (v := 80) rfl rfl rfl).trans ?_
    refine (r_iload rfl rfl rfl).trans ?_
    refine (r_iadd rfl rfl).trans ?_
    refine (r_iconst (v := 1) rfl rfl rfl).trans ?_
    refine (r_isub rfl rfl).trans ?_
    refine (r_iald rfl rfl rfl (by decide) (b0 h_0)).trans ?_
    refine (r_iast rfl rfl rfl (by decide) (b1 h_0)).trans ?_
    refine (r_iinc (y := (-1)) rfl rfl rfl rfl rfl rfl).trans ?_
    refine (r_goto rfl rfl).trans ?_
    exact rfl
  · refine (r_aload_n rfl rfl rfl).trans ?_
    refine (r_getR (ci := 10) (sl := 0) s_E rfl rfl rfl rfl (by decide) rfl rfl).trans ?_
    refine (r_bipush (v := 80) rfl rfl rfl).trans ?_
    refine (r_iload_n rfl rfl rfl).trans ?_
    refine (r_iadd rfl rfl).trans ?_
    refine (r_iload_n rfl rfl rfl).trans ?_
    refine (r_iast rfl rfl rfl (by decide) (b2 h_0)).trans ?_
    refine (r_iload_n rfl rfl rfl).trans ?_
    exact r_iret rfl rfl

theorem en_X10_back {d : Nat} {E : pEv} {ro : Nat → Nat → Int32} {Q : Option Value → pH → Prop} (s_E : oE E) {x1 : Int32} : wX (d + 1) 199 [.ref 101, .int x1] (mkH E ro) Q = wX d 154 [.long x1.toInt64, .long 0, .long 1] (mkH E ro) (fun v h' => wG d 199 (7, [.ref 101, .int x1, .retAddr 0], pv v [], h') Q) := by
  refine (wX_in rfl (by decide)).trans ?_
  show wG d 199 (0, [.ref 101, .int x1, .retAddr 0], [], mkH E ro) Q = _
  refine (r_iload_n rfl rfl rfl).trans ?_
  refine (r_i2l rfl rfl).trans ?_
  refine (r_lconst (w := 0) rfl rfl rfl).trans ?_
  refine (r_lconst (w := 1) rfl rfl rfl).trans ?_
  exact r_ins (m := 154) rfl rfl rfl rfl rfl rfl

theorem sg_X10_back_7 {d : Nat} {E : pEv} {ro : Nat → Nat → Int32} {Q : Option Value → pH → Prop} (s_E : oE E) {x1 : Int32} {v2 : Value} {xs0 : Int32} : wG d 199 (7, [.ref 101, .int x1, v2], [.int xs0], mkH E ro) Q = (if xs0 = 0 then wX d 153 [.ref 101, .int 1] (mkH E ro) (fun v h' => wG d 199 (15, [.ref 101, .int x1, v2], pv v [], h') Q) else Q (some (.int (ro 102 2))) (mkH E (uI ro 102 2 x1))) := by
  refine (r_if_ne rfl rfl rfl).trans ?_
  refine ite_congr rfl (fun h_0 => ?_) (fun h_0 => ?_)
  · refine (r_aload_n rfl rfl rfl).trans ?_
    refine (r_iconst (v := 1) rfl rfl rfl).trans ?_
    exact r_inv (m := 153) (c := 10) rfl rfl rfl rfl rfl rfl rfl rfl
  · refine (r_aload_n rfl rfl rfl).trans ?_
    refine (r_getR (ci := 10) (sl := 0) s_E rfl rfl rfl rfl (by decide) rfl rfl).trans ?_
    refine (r_iconst (v := 2) rfl rfl rfl).trans ?_
    refine (r_iald rfl rfl rfl (by decide) (by decide)).trans ?_
    refine (r_istore_n rfl rfl rfl rfl).trans ?_
    refine (r_aload_n rfl rfl rfl).trans ?_
    refine (r_getR (ci := 10) (sl := 0) s_E rfl rfl rfl rfl (by decide) rfl rfl).trans ?_
    refine (r_iconst (v := 2) rfl rfl rfl).trans ?_
    refine (r_iload_n rfl rfl rfl).trans ?_
    refine (r_iast rfl rfl rfl (by decide) (by decide)).trans ?_
    refine (r_iload_n rfl rfl rfl).trans ?_
    exact r_iret rfl rfl

theorem sg_X10_back_15 {d : Nat} {E : pEv} {ro : Nat → Nat → Int32} {Q : Option Value → pH → Prop} (s_E : oE E) {x1 : Int32} {v2 : Value} {xs0 : Int32} : wG d 199 (15, [.ref 101, .int x1, v2], [.int xs0], mkH E ro) Q = Q (some (.int xs0)) (mkH E ro) := by
  exact r_iret rfl rfl

theorem en_X10_guessOf {d : Nat} {E : pEv} {ro : Nat → Nat → Int32} {Q : Option Value → pH → Prop} (s_E : oE E) {x1 : Int32} : wX (d + 1) 200 [.ref 101, .int x1] (mkH E ro) Q = wX d 188 [.ref 101] (mkH E ro) (fun v h' => wG d 200 (4, [.ref 101, .int x1, .retAddr 0, .retAddr 0], pv v [], h') Q) := by
  refine (wX_in rfl (by decide)).trans ?_
  show wG d 200 (0, [.ref 101, .int x1, .retAddr 0, .retAddr 0], [], mkH E ro) Q = _
  refine (r_aload_n rfl rfl rfl).trans ?_
  exact r_inv (m := 188) (c := 10) rfl rfl rfl rfl rfl rfl rfl rfl

theorem sg_X10_guessOf_4 {d : Nat} {E : pEv} {ro : Nat → Nat → Int32} {Q : Option Value → pH → Prop} (s_E : oE E) {x1 : Int32} {v2 : Value} {v3 : Value} : wG d 200 (4, [.ref 101, .int x1, v2, v3], [], mkH E ro) Q = wX d 189 [.ref 101] (mkH E ro) (fun v h' => wG d 200 (8, [.ref 101, .int x1, v2, v3], pv v [], h') Q) := by
  refine (r_aload_n rfl rfl rfl).trans ?_
  exact r_inv (m := 189) (c := 10) rfl rfl rfl rfl rfl rfl rfl rfl

theorem sg_X10_guessOf_8 {d : Nat} {E : pEv} {ro : Nat → Nat → Int32} {Q : Option Value → pH → Prop} (s_E : oE E) {x1 : Int32} {v2 : Value} {v3 : Value} : wG d 200 (8, [.ref 101, .int x1, v2, v3], [], mkH E ro) Q = wG d 200 (12, [.ref 101, .int x1, .int 0, .int 0], [], mkH E ro) Q := by
  refine (r_iconst (v := 0) rfl rfl rfl).trans ?_
  refine (r_istore_n rfl rfl rfl rfl).trans ?_
  refine (r_iconst (v := 0) rfl rfl rfl).trans ?_
  refine (r_istore_n rfl rfl rfl rfl).trans ?_
  exact rfl

theorem sg_X10_guessOf_12 {d : Nat} {E : pEv} {ro : Nat → Nat → Int32} {Q : Option Value → pH → Prop} (s_E : oE E) {x1 : Int32} {x2 : Int32} {x3 : Int32} (b0 : (x3 < x1) → (¬ x3 < 0 ∧ x3.toNatClampNeg < 7)) : wG d 200 (12, [.ref 101, .int x1, .int x2, .int x3], [], mkH E ro) Q = (if x3 < x1 then wG d 200 (12, [.ref 101, .int x1, .int (x2 ||| ((1 : Int32) <<< ((ro 106 x3.toNatClampNeg) &&& 31))), .int (x3 + 1)], [], mkH E ro) Q else wX d 190 [.ref 101, .int x1, .int x2] (mkH E ro) (fun v h' => wG d 200 (40, [.ref 101, .int x1, .int x2, .int x3], pv v [], h') Q)) := by
  refine (r_iload_n rfl rfl rfl).trans ?_
  refine (r_iload_n rfl rfl rfl).trans ?_
  refine (r_icmp_ge rfl rfl rfl).trans ?_
  refine ite_congr rfl (fun h_0 => ?_) (fun h_0 => ?_)
  · refine (r_iload_n rfl rfl rfl).trans ?_
    refine (r_iconst (v := 1) rfl rfl rfl).trans ?_
    refine (r_aload_n rfl rfl rfl).trans ?_
    refine (r_getR (ci := 10) (sl := 11) s_E rfl rfl rfl rfl (by decide) rfl rfl).trans ?_
    refine (r_iload_n rfl rfl rfl).trans ?_
    refine (r_iald rfl rfl rfl (by decide) (b0 h_0)).trans ?_
    refine (r_ishl rfl rfl).trans ?_
    refine (r_ior rfl rfl).trans ?_
    refine (r_istore_n rfl rfl rfl rfl).trans ?_
    refine (r_iinc (y := 1) rfl rfl rfl rfl rfl rfl).trans ?_
    refine (r_goto rfl rfl).trans ?_
    exact rfl
  · refine (r_aload_n rfl rfl rfl).trans ?_
    refine (r_iload_n rfl rfl rfl).trans ?_
    refine (r_iload_n rfl rfl rfl).trans ?_
    exact r_inv (m := 190) (c := 10) rfl rfl rfl rfl rfl rfl rfl rfl

theorem sg_X10_guessOf_40 {d : Nat} {E : pEv} {ro : Nat → Nat → Int32} {Q : Option Value → pH → Prop} (s_E : oE E) {x1 : Int32} {x2 : Int32} {x3 : Int32} {xs0 : Int32} : wG d 200 (40, [.ref 101, .int x1, .int x2, .int x3], [.int xs0], mkH E ro) Q = Q (some (.int xs0)) (mkH E ro) := by
  exact r_iret rfl rfl

theorem en_X10_guess {d : Nat} {E : pEv} {ro : Nat → Nat → Int32} {Q : Option Value → pH → Prop} (s_E : oE E) {x1 : Int32} : wX (d + 1) 201 [.ref 101, .int x1] (mkH E ro) Q = wX d 154 [.long x1.toInt64, .long 0, .long (((ro 102 0) - 1).toInt64)] (mkH E ro) (fun v h' => wG d 201 (15, [.ref 101, .int x1], pv v [], h') Q) := by
  refine (wX_in rfl (by decide)).trans ?_
  show wG d 201 (0, [.ref 101, .int x1], [], mkH E ro) Q = _
  refine (r_iload_n rfl rfl rfl).trans ?_
  refine (r_i2l rfl rfl).trans ?_
  refine (r_lconst (w := 0) rfl rfl rfl).trans ?_
  refine (r_aload_n rfl rfl rfl).trans ?_
  refine (r_getR (ci := 10) (sl := 0) s_E rfl rfl rfl rfl (by decide) rfl rfl).trans ?_
  refine (r_iconst (v := 0) rfl rfl rfl).trans ?_
  refine (r_iald rfl rfl rfl (by decide) (by decide)).trans ?_
  refine (r_iconst (v := 1) rfl rfl rfl).trans ?_
  refine (r_isub rfl rfl).trans ?_
  refine (r_i2l rfl rfl).trans ?_
  exact r_ins (m := 154) rfl rfl rfl rfl rfl rfl

theorem sg_X10_guess_15 {d : Nat} {E : pEv} {ro : Nat → Nat → Int32} {Q : Option Value → pH → Prop} (s_E : oE E) {x1 : Int32} {xs0 : Int32} : wG d 201 (15, [.ref 101, .int x1], [.int xs0], mkH E ro) Q = (if xs0 = 0 then wX d 153 [.ref 101, .int 1] (mkH E ro) (fun v h' => wG d 201 (31, [.ref 101, .int x1], pv v [], h') Q) else wX d 200 [.ref 101, .int x1] (mkH E ro) (fun v h' => wG d 201 (23, [.ref 101, .int x1], pv v [], h') Q)) := by
  refine (r_if_eq rfl rfl rfl).trans ?_
  refine ite_congr rfl (fun h_0 => ?_) (fun h_0 => ?_)
  · refine (r_aload_n rfl rfl rfl).trans ?_
    refine (r_iconst (v := 1) rfl rfl rfl).trans ?_
    exact r_inv (m := 153) (c := 10) rfl rfl rfl rfl rfl rfl rfl rfl
  · refine (r_aload_n rfl rfl rfl).trans ?_
    refine (r_iload_n rfl rfl rfl).trans ?_
    exact r_inv (m := 200) (c := 10) rfl rfl rfl rfl rfl rfl rfl rfl

theorem sg_X10_guess_23 {d : Nat} {E : pEv} {ro : Nat → Nat → Int32} {Q : Option Value → pH → Prop} (s_E : oE E) {x1 : Int32} {xs0 : Int32} : wG d 201 (23, [.ref 101, .int x1], [.int xs0], mkH E ro) Q = Q (some (.int xs0)) (mkH E ro) := by
  refine (r_goto rfl rfl).trans ?_
  exact r_iret rfl rfl

theorem sg_X10_guess_31 {d : Nat} {E : pEv} {ro : Nat → Nat → Int32} {Q : Option Value → pH → Prop} (s_E : oE E) {x1 : Int32} {xs0 : Int32} : wG d 201 (31, [.ref 101, .int x1], [.int xs0], mkH E ro) Q = Q (some (.int xs0)) (mkH E ro) := by
  exact r_iret rfl rfl

theorem en_X10_understood {d : Nat} {E : pEv} {ro : Nat → Nat → Int32} {Q : Option Value → pH → Prop} (s_E : oE E) {x1 : Int32} : wX (d + 1) 202 [.ref 101, .int x1] (mkH E ro) Q = wX d 156 [.ref 101, .int x1] (mkH E ro) (fun v h' => wG d 202 (5, [.ref 101, .int x1, .retAddr 0, .retAddr 0, .retAddr 0], pv v [], h') Q) := by
  refine (wX_in rfl (by decide)).trans ?_
  show wG d 202 (0, [.ref 101, .int x1, .retAddr 0, .retAddr 0, .retAddr 0], [], mkH E ro) Q = _
  refine (r_aload_n rfl rfl rfl).trans ?_
  refine (r_iload_n rfl rfl rfl).trans ?_
  exact r_inv (m := 156) (c := 10) rfl rfl rfl rfl rfl rfl rfl rfl

theorem sg_X10_understood_5 {d : Nat} {E : pEv} {ro : Nat → Nat → Int32} {Q : Option Value → pH → Prop} (s_E : oE E) {x1 : Int32} {v2 : Value} {v3 : Value} {v4 : Value} {xs0 : Int32} : wG d 202 (5, [.ref 101, .int x1, v2, v3, v4], [.int xs0], mkH E ro) Q = (if xs0 = 0 then wX d 153 [.ref 101, .int 1] (mkH E ro) (fun v h' => wG d 202 (13, [.ref 101, .int x1, v2, v3, v4], pv v [], h') Q) else wG d 202 (20, [.ref 101, .int x1, .int ((1 : Int32) <<< (x1 &&& 31)), .int x1, v4], [], mkH E ro) Q) := by
  refine (r_if_ne rfl rfl rfl).trans ?_
  refine ite_congr rfl (fun h_0 => ?_) (fun h_0 => ?_)
  · refine (r_aload_n rfl rfl rfl).trans ?_
    refine (r_iconst (v := 1) rfl rfl rfl).trans ?_
    exact r_inv (m := 153) (c := 10) rfl rfl rfl rfl rfl rfl rfl rfl
  · refine (r_iconst (v := 1) rfl rfl rfl).trans ?_
    refine (r_iload_n rfl rfl rfl).trans ?_
    refine (r_ishl rfl rfl).trans ?_
    refine (r_istore_n rfl rfl rfl rfl).trans ?_
    refine (r_iload_n rfl rfl rfl).trans ?_
    refine (r_istore_n rfl rfl rfl rfl).trans ?_
    exact rfl

theorem sg_X10_understood_13 {d : Nat} {E : pEv} {ro : Nat → Nat → Int32} {Q : Option Value → pH → Prop} (s_E : oE E) {x1 : Int32} {v2 : Value} {v3 : Value} {v4 : Value} {xs0 : Int32} : wG d 202 (13, [.ref 101, .int x1, v2, v3, v4], [.int xs0], mkH E ro) Q = Q (some (.int xs0)) (mkH E ro) := by
  exact r_iret rfl rfl

theorem sg_X10_understood_20 {d : Nat} {E : pEv} {ro : Nat → Nat → Int32} {Q : Option Value → pH → Prop} (s_E : oE E) {x1 : Int32} {x2 : Int32} {x3 : Int32} {v4 : Value} : wG d 202 (20, [.ref 101, .int x1, .int x2, .int x3, v4], [], mkH E ro) Q = (if x3 < 0 then wG d 202 (57, [.ref 101, .int x1, .int x2, .int 0, .int 0], [], mkH E ro) Q else (if ((x2 >>> (x3 &&& 31)) &&& 1) = 1 then wX d 157 [.ref 101, .int x3, .int 2] (mkH E ro) (fun v h' => wG d 202 (40, [.ref 101, .int x1, .int x2, .int x3, v4], pv v [.int x2], h') Q) else wG d 202 (20, [.ref 101, .int x1, .int (x2 ||| 0), .int (x3 + (-1)), v4], [], mkH E ro) Q)) := by
  refine (r_iload_n rfl rfl rfl).trans ?_
  refine (r_if_lt rfl rfl rfl).trans ?_
  refine ite_congr rfl (fun h_0 => ?_) (fun h_0 => ?_)
  · refine (r_iconst (v := 0) rfl rfl rfl).trans ?_
    refine (r_istore_n rfl rfl rfl rfl).trans ?_
    refine (r_iconst (v := 0) rfl rfl rfl).trans ?_
    refine (r_istore rfl rfl rfl rfl).trans ?_
    exact rfl
  · refine (r_iload_n rfl rfl rfl).trans ?_
    refine (r_iload_n rfl rfl rfl).trans ?_
    refine (r_iload_n rfl rfl rfl).trans ?_
    refine (r_ishr rfl rfl).trans ?_
    refine (r_iconst (v := 1) rfl rfl rfl).trans ?_
    refine (r_iand rfl rfl).trans ?_
    refine (r_iconst (v := 1) rfl rfl rfl).trans ?_
    refine (r_icmp_ne rfl rfl rfl).trans ?_
    refine ite_congr rfl (fun h_1 => ?_) (fun h_1 => ?_)
    · refine (r_aload_n rfl rfl rfl).trans ?_
      refine (r_iload_n rfl rfl rfl).trans ?_
      refine (r_iconst (v := 2) rfl rfl rfl).trans ?_
      exact r_inv (m := 157) (c := 10) rfl rfl rfl rfl rfl rfl rfl rfl
    · refine (r_iconst (v := 0) rfl rfl rfl).trans ?_
      refine (r_ior rfl rfl).trans ?_
      refine (r_istore_n rfl rfl rfl rfl).trans ?_
      refine (r_iinc (y := (-1)) rfl rfl rfl rfl rfl rfl).trans ?_
      refine (r_goto rfl rfl).trans ?_
      exact rfl

theorem sg_X10_understood_40 {d : Nat} {E : pEv} {ro : Nat → Nat → Int32} {Q : Option Value → pH → Prop} (s_E : oE E) {x1 : Int32} {x2 : Int32} {x3 : Int32} {v4 : Value} {xs0 : Int32} {xs1 : Int32} : wG d 202 (40, [.ref 101, .int x1, .int x2, .int x3, v4], [.int xs1, .int xs0], mkH E ro) Q = wG d 202 (20, [.ref 101, .int x1, .int (xs0 ||| xs1), .int (x3 + (-1)), v4], [], mkH E ro) Q := by
  refine (r_goto rfl rfl).trans ?_
  refine (r_ior rfl rfl).trans ?_
  refine (r_istore_n rfl rfl rfl rfl).trans ?_
  refine (r_iinc (y := (-1)) rfl rfl rfl rfl rfl rfl).trans ?_
  refine (r_goto rfl rfl).trans ?_
  exact rfl

theorem sg_X10_understood_57 {d : Nat} {E : pEv} {ro : Nat → Nat → Int32} {Q : Option Value → pH → Prop} (s_E : oE E) {x1 : Int32} {x2 : Int32} {x3 : Int32} {x4 : Int32} (b0 : (x4 < (ro 102 0)) → (¬ (80 + x4) < 0 ∧ (80 + x4).toNatClampNeg < 264)) : wG d 202 (57, [.ref 101, .int x1, .int x2, .int x3, .int x4], [], mkH E ro) Q = (if x4 < (ro 102 0) then (if ((x2 >>> ((ro 102 (80 + x4).toNatClampNeg) &&& 31)) &&& 1) = 1 then wG d 202 (57, [.ref 101, .int x1, .int x2, .int x4, .int (x4 + 1)], [], mkH E ro) Q else wG d 202 (57, [.ref 101, .int x1, .int x2, .int x3, .int (x4 + 1)], [], mkH E ro) Q) else Q (some (.int x3)) (mkH E ro)) := by
  refine (r_iload rfl rfl rfl).trans ?_
  refine (r_aload_n rfl rfl rfl).trans ?_
  refine (r_getR (ci := 10) (sl := 0) s_E rfl rfl rfl rfl (by decide) rfl rfl).trans ?_
  refine (r_iconst (v := 0) rfl rfl rfl).trans ?_
  refine (r_iald rfl rfl rfl (by decide) (by decide)).trans ?_
  refine (r_icmp_ge rfl rfl rfl).trans ?_
  refine ite_congr rfl (fun h_0 => ?_) (fun h_0 => ?_)
  · refine (r_iload_n rfl rfl rfl).trans ?_
    refine (r_aload_n rfl rfl rfl).trans ?_
    refine (r_getR (ci := 10) (sl := 0) s_E rfl rfl rfl rfl (by decide) rfl rfl).trans ?_
    refine (r_bipush (v := 80) rfl rfl rfl).trans ?_
    refine (r_iload rfl rfl rfl).trans ?_
    refine (r_iadd rfl rfl).trans ?_
    refine (r_iald rfl rfl rfl (by decide) (b0 h_0)).trans ?_
    refine (r_ishr rfl rfl).trans ?_
    refine (r_iconst (v := 1) rfl rfl rfl).trans ?_
    refine (r_iand rfl rfl).trans ?_
    refine (r_iconst (v := 1) rfl rfl rfl).trans ?_
    refine (r_icmp_ne rfl rfl rfl).trans ?_
    refine ite_congr rfl (fun h_1 => ?_) (fun h_1 => ?_)
    · refine (r_iload rfl rfl rfl).trans ?_
      refine (r_goto rfl rfl).trans ?_
      refine (r_istore_n rfl rfl rfl rfl).trans ?_
      refine (r_iinc (y := 1) rfl rfl rfl rfl rfl rfl).trans ?_
      refine (r_goto rfl rfl).trans ?_
      exact rfl
    · refine (r_iload_n rfl rfl rfl).trans ?_
      refine (r_istore_n rfl rfl rfl rfl).trans ?_
      refine (r_iinc (y := 1) rfl rfl rfl rfl rfl rfl).trans ?_
      refine (r_goto rfl rfl).trans ?_
      exact rfl
  · refine (r_iload_n rfl rfl rfl).trans ?_
    exact r_iret rfl rfl

theorem en_X10_flaw {d : Nat} {E : pEv} {ro : Nat → Nat → Int32} {Q : Option Value → pH → Prop} (s_E : oE E) : wX (d + 1) 203 [.ref 101] (mkH E ro) Q = wG d 203 (2, [.ref 101, .int 0], [], mkH E ro) Q := by
  refine (wX_in rfl (by decide)).trans ?_
  show wG d 203 (0, [.ref 101, .retAddr 0], [], mkH E ro) Q = _
  refine (r_iconst (v := 0) rfl rfl rfl).trans ?_
  refine (r_istore_n rfl rfl rfl rfl).trans ?_
  exact rfl

theorem sg_X10_flaw_2 {d : Nat} {E : pEv} {ro : Nat → Nat → Int32} {Q : Option Value → pH → Prop} (s_E : oE E) {x1 : Int32} (b0 : (x1 < (ro 102 0)) → (¬ (80 + x1) < 0 ∧ (80 + x1).toNatClampNeg < 264)) : wG d 203 (2, [.ref 101, .int x1], [], mkH E ro) Q = (if x1 < (ro 102 0) then wX d 180 [.ref 101, .int (ro 102 (80 + x1).toNatClampNeg)] (mkH E ro) (fun v h' => wG d 203 (25, [.ref 101, .int x1], pv v [], h') Q) else wX d 153 [.ref 101, .int 2] (mkH E ro) (fun v h' => wG d 203 (41, [.ref 101, .int x1], pv v [], h') Q)) := by
  refine (r_iload_n rfl rfl rfl).trans ?_
  refine (r_aload_n rfl rfl rfl).trans ?_
  refine (r_getR (ci := 10) (sl := 0) s_E rfl rfl rfl rfl (by decide) rfl rfl).trans ?_
  refine (r_iconst (v := 0) rfl rfl rfl).trans ?_
  refine (r_iald rfl rfl rfl (by decide) (by decide)).trans ?_
  refine (r_icmp_ge rfl rfl rfl).trans ?_
  refine ite_congr rfl (fun h_0 => ?_) (fun h_0 => ?_)
  · refine (r_aload_n rfl rfl rfl).trans ?_
    refine (r_aload_n rfl rfl rfl).trans ?_
    refine (r_getR (ci := 10) (sl := 0) s_E rfl rfl rfl rfl (by decide) rfl rfl).trans ?_
    refine (r_bipush (v := 80) rfl rfl rfl).trans ?_
    refine (r_iload_n rfl rfl rfl).trans ?_
    refine (r_iadd rfl rfl).trans ?_
    refine (r_iald rfl rfl rfl (by decide) (b0 h_0)).trans ?_
    exact r_inv (m := 180) (c := 10) rfl rfl rfl rfl rfl rfl rfl rfl
  · refine (r_aload_n rfl rfl rfl).trans ?_
    refine (r_iconst (v := 2) rfl rfl rfl).trans ?_
    exact r_inv (m := 153) (c := 10) rfl rfl rfl rfl rfl rfl rfl rfl

theorem sg_X10_flaw_25 {d : Nat} {E : pEv} {ro : Nat → Nat → Int32} {Q : Option Value → pH → Prop} (s_E : oE E) {x1 : Int32} {xs0 : Int32} : wG d 203 (25, [.ref 101, .int x1], [.int xs0], mkH E ro) Q = (if xs0 = 0 then wG d 203 (2, [.ref 101, .int (x1 + 1)], [], mkH E ro) Q else Q (some (.int x1)) (mkH E ro)) := by
  refine (r_if_eq rfl rfl rfl).trans ?_
  refine ite_congr rfl (fun h_0 => ?_) (fun h_0 => ?_)
  · refine (r_iinc (y := 1) rfl rfl rfl rfl rfl rfl).trans ?_
    refine (r_goto rfl rfl).trans ?_
    exact rfl
  · refine (r_iload_n rfl rfl rfl).trans ?_
    exact r_iret rfl rfl

theorem sg_X10_flaw_41 {d : Nat} {E : pEv} {ro : Nat → Nat → Int32} {Q : Option Value → pH → Prop} (s_E : oE E) {x1 : Int32} {xs0 : Int32} : wG d 203 (41, [.ref 101, .int x1], [.int xs0], mkH E ro) Q = Q (some (.int xs0)) (mkH E ro) := by
  exact r_iret rfl rfl

theorem en_X10_turn {d : Nat} {E : pEv} {ro : Nat → Nat → Int32} {Q : Option Value → pH → Prop} (s_E : oE E) : wX (d + 1) 204 [.ref 101] (mkH E ro) Q = wX d 188 [.ref 101] (mkH E ro) (fun v h' => wG d 204 (4, [.ref 101, .retAddr 0], pv v [], h') Q) := by
  refine (wX_in rfl (by decide)).trans ?_
  show wG d 204 (0, [.ref 101, .retAddr 0], [], mkH E ro) Q = _
  refine (r_aload_n rfl rfl rfl).trans ?_
  exact r_inv (m := 188) (c := 10) rfl rfl rfl rfl rfl rfl rfl rfl

theorem sg_X10_turn_4 {d : Nat} {E : pEv} {ro : Nat → Nat → Int32} {Q : Option Value → pH → Prop} (s_E : oE E) {v1 : Value} : wG d 204 (4, [.ref 101, v1], [], mkH E ro) Q = wG d 204 (6, [.ref 101, .int 0], [], mkH E ro) Q := by
  refine (r_iconst (v := 0) rfl rfl rfl).trans ?_
  refine (r_istore_n rfl rfl rfl rfl).trans ?_
  exact rfl

theorem sg_X10_turn_6 {d : Nat} {E : pEv} {ro : Nat → Nat → Int32} {Q : Option Value → pH → Prop} (s_E : oE E) {x1 : Int32} (b0 : (x1 < (ro 102 0)) → (¬ (((ro 102 0) - 1) - x1) < 0 ∧ (((ro 102 0) - 1) - x1).toNatClampNeg < 7)) (b1 : (x1 < (ro 102 0)) → (¬ (80 + x1) < 0 ∧ (80 + x1).toNatClampNeg < 264)) : wG d 204 (6, [.ref 101, .int x1], [], mkH E ro) Q = (if x1 < (ro 102 0) then wG d 204 (6, [.ref 101, .int (x1 + 1)], [], mkH E (uI ro 102 (80 + x1).toNatClampNeg (ro 106 (((ro 102 0) - 1) - x1).toNatClampNeg))) Q else Q (some (.int (ro 102 0))) (mkH E ro)) := by
  refine (r_iload_n rfl rfl rfl).trans ?_
  refine (r_aload_n rfl rfl rfl).trans ?_
  refine (r_getR (ci := 10) (sl := 0) s_E rfl rfl rfl rfl (by decide) rfl rfl).trans ?_
  refine (r_iconst (v := 0) rfl rfl rfl).trans ?_
  refine (r_iald rfl rfl rfl (by decide) (by decide)).trans ?_
  refine (r_icmp_ge rfl rfl rfl).trans ?_
  refine ite_congr rfl (fun h_0 => ?_) (fun h_0 => ?_)
  · refine (r_aload_n rfl rfl rfl).trans ?_
    refine (r_getR (ci := 10) (sl := 0) s_E rfl rfl rfl rfl (by decide) rfl rfl).trans ?_
    refine (r_bipush (v := 80) rfl rfl rfl).trans ?_
    refine (r_iload_n rfl rfl rfl).trans ?_
    refine (r_iadd rfl rfl).trans ?_
    refine (r_aload_n rfl rfl rfl).trans ?_
    refine (r_getR (ci := 10) (sl := 11) s_E rfl rfl rfl rfl (by decide) rfl rfl).trans ?_
    refine (r_aload_n rfl rfl rfl).trans ?_
    refine (r_getR (ci := 10) (sl := 0) s_E rfl rfl rfl rfl (by decide) rfl rfl).trans ?_
    refine (r_iconst (v := 0) rfl rfl rfl).trans ?_
    refine (r_iald rfl rfl rfl (by decide) (by decide)).trans ?_
    refine (r_iconst (v := 1) rfl rfl rfl).trans ?_
    refine (r_isub rfl rfl).trans ?_
    refine (r_iload_n rfl rfl rfl).trans ?_
    refine (r_isub rfl rfl).trans ?_
    refine (r_iald rfl rfl rfl (by decide) (b0 h_0)).trans ?_
    refine (r_iast rfl rfl rfl (by decide) (b1 h_0)).trans ?_
    refine (r_iinc (y := 1) rfl rfl rfl rfl rfl rfl).trans ?_
    refine (r_goto rfl rfl).trans ?_
    exact rfl
  · refine (r_aload_n rfl rfl rfl).trans ?_
    refine (r_getR (ci := 10) (sl := 0) s_E rfl rfl rfl rfl (by decide) rfl rfl).trans ?_
    refine (r_iconst (v := 0) rfl rfl rfl).trans ?_
    refine (r_iald rfl rfl rfl (by decide) (by decide)).trans ?_
    exact r_iret rfl rfl

theorem en_X10_nextRow {d : Nat} {E : pEv} {ro : Nat → Nat → Int32} {Q : Option Value → pH → Prop} (s_E : oE E) : wX (d + 1) 205 [.ref 101] (mkH E ro) Q = wG d 205 (9, [.ref 101, .int ((ro 102 0) - 2), .retAddr 0, .retAddr 0, .retAddr 0, .retAddr 0], [], mkH E ro) Q := by
  refine (wX_in rfl (by decide)).trans ?_
  show wG d 205 (0, [.ref 101, .retAddr 0, .retAddr 0, .retAddr 0, .retAddr 0, .retAddr 0], [], mkH E ro) Q = _
  refine (r_aload_n rfl rfl rfl).trans ?_
  refine (r_getR (ci := 10) (sl := 0) s_E rfl rfl rfl rfl (by decide) rfl rfl).trans ?_
  refine (r_iconst (v := 0) rfl rfl rfl).trans ?_
  refine (r_iald rfl rfl rfl (by decide) (by decide)).trans ?_
  refine (r_iconst (v := 2) rfl rfl rfl).trans ?_
  refine (r_isub rfl rfl).trans ?_
  refine (r_istore_n rfl rfl rfl rfl).trans ?_
  exact rfl

theorem sg_X10_nextRow_9 {d : Nat} {E : pEv} {ro : Nat → Nat → Int32} {Q : Option Value → pH → Prop} (s_E : oE E) {x1 : Int32} {v2 : Value} {v3 : Value} {v4 : Value} {v5 : Value} (b0 : (¬ x1 < 0) → (¬ x1 < 0 ∧ x1.toNatClampNeg < 7)) (b1 : (¬ x1 < 0) → (¬ (x1 + 1) < 0 ∧ (x1 + 1).toNatClampNeg < 7)) : wG d 205 (9, [.ref 101, .int x1, v2, v3, v4, v5], [], mkH E ro) Q = (if x1 < 0 then (if x1 < 0 then Q (some (.int 0)) (mkH E ro) else wG d 205 (51, [.ref 101, .int x1, .int ((ro 102 0) - 1), v3, v4, v5], [], mkH E ro) Q) else (if (ro 106 (x1 + 1).toNatClampNeg) < (ro 106 x1.toNatClampNeg) then wG d 205 (9, [.ref 101, .int (x1 + (-1)), v2, v3, v4, v5], [], mkH E ro) Q else (if x1 < 0 then Q (some (.int 0)) (mkH E ro) else wG d 205 (51, [.ref 101, .int x1, .int ((ro 102 0) - 1), v3, v4, v5], [], mkH E ro) Q))) := by
  refine (r_iload_n rfl rfl rfl).trans ?_
  refine (r_if_lt rfl rfl rfl).trans ?_
  refine ite_congr rfl (fun h_0 => ?_) (fun h_0 => ?_)
  · refine (r_iload_n rfl rfl rfl).trans ?_
    refine (r_if_ge rfl rfl rfl).trans ?_
    refine ite_congr rfl (fun h_1 => ?_) (fun h_1 => ?_)
    · refine (r_iconst (v := 0) rfl rfl rfl).trans ?_
      exact r_zret rfl rfl rfl
    · refine (r_aload_n rfl rfl rfl).trans ?_
      refine (r_getR (ci := 10) (sl := 0) s_E rfl rfl rfl rfl (by decide) rfl rfl).trans ?_
      refine (r_iconst (v := 0) rfl rfl rfl).trans ?_
      refine (r_iald rfl rfl rfl (by decide) (by decide)).trans ?_
      refine (r_iconst (v := 1) rfl rfl rfl).trans ?_
      refine (r_isub rfl rfl).trans ?_
      refine (r_istore_n rfl rfl rfl rfl).trans ?_
      exact rfl
  · refine (r_aload_n rfl rfl rfl).trans ?_
    refine (r_getR (ci := 10) (sl := 11) s_E rfl rfl rfl rfl (by decide) rfl rfl).trans ?_
    refine (r_iload_n rfl rfl rfl).trans ?_
    refine (r_iald rfl rfl rfl (by decide) (b0 h_0)).trans ?_
    refine (r_aload_n rfl rfl rfl).trans ?_
    refine (r_getR (ci := 10) (sl := 11) s_E rfl rfl rfl rfl (by decide) rfl rfl).trans ?_
    refine (r_iload_n rfl rfl rfl).trans ?_
    refine (r_iconst (v := 1) rfl rfl rfl).trans ?_
    refine (r_iadd rfl rfl).trans ?_
    refine (r_iald rfl rfl rfl (by decide) (b1 h_0)).trans ?_
    refine (r_icmp_le rfl rfl rfl).trans ?_
    refine ite_congr rfl (fun h_1 => ?_) (fun h_1 => ?_)
    · refine (r_iinc (y := (-1)) rfl rfl rfl rfl rfl rfl).trans ?_
      refine (r_goto rfl rfl).trans ?_
      exact rfl
    · refine (r_iload_n rfl rfl rfl).trans ?_
      refine (r_if_ge rfl rfl rfl).trans ?_
      refine ite_congr rfl (fun h_2 => ?_) (fun h_2 => ?_)
      · refine (r_iconst (v := 0) rfl rfl rfl).trans ?_
        exact r_zret rfl rfl rfl
      · refine (r_aload_n rfl rfl rfl).trans ?_
        refine (r_getR (ci := 10) (sl := 0) s_E rfl rfl rfl rfl (by decide) rfl rfl).trans ?_
        refine (r_iconst (v := 0) rfl rfl rfl).trans ?_
        refine (r_iald rfl rfl rfl (by decide) (by decide)).trans ?_
        refine (r_iconst (v := 1) rfl rfl rfl).trans ?_
        refine (r_isub rfl rfl).trans ?_
        refine (r_istore_n rfl rfl rfl rfl).trans ?_
        exact rfl

theorem sg_X10_nextRow_51 {d : Nat} {E : pEv} {ro : Nat → Nat → Int32} {Q : Option Value → pH → Prop} (s_E : oE E) {x1 : Int32} {x2 : Int32} {v3 : Value} {v4 : Value} {v5 : Value} (b0 : (¬ x2 < 0 ∧ x2.toNatClampNeg < 7)) (b1 : (¬ x1 < 0 ∧ x1.toNatClampNeg < 7)) (b2 : (¬ (ro 106 x2.toNatClampNeg) < (ro 106 x1.toNatClampNeg)) → (¬ x1 < 0 ∧ x1.toNatClampNeg < 7)) (b3 : (¬ (ro 106 x2.toNatClampNeg) < (ro 106 x1.toNatClampNeg)) → (¬ x2 < 0 ∧ x2.toNatClampNeg < 7)) : wG d 205 (51, [.ref 101, .int x1, .int x2, v3, v4, v5], [], mkH E ro) Q = (if (ro 106 x2.toNatClampNeg) < (ro 106 x1.toNatClampNeg) then wG d 205 (51, [.ref 101, .int x1, .int (x2 + (-1)), v3, v4, v5], [], mkH E ro) Q else wG d 205 (113, [.ref 101, .int x1, .int x2, .int (ro 106 x1.toNatClampNeg), .int (x1 + 1), .int (((uI (uI ro 106 x1.toNatClampNeg (ro 106 x2.toNatClampNeg)) 106 x2.toNatClampNeg (ro 106 x1.toNatClampNeg)) 102 0) - 1)], [], mkH E (uI (uI ro 106 x1.toNatClampNeg (ro 106 x2.toNatClampNeg)) 106 x2.toNatClampNeg (ro 106 x1.toNatClampNeg))) Q) := by
  refine (r_aload_n rfl rfl rfl).trans ?_
  refine (r_getR (ci := 10) (sl := 11) s_E rfl rfl rfl rfl (by decide) rfl rfl).trans ?_
  refine (r_iload_n rfl rfl rfl).trans ?_
  refine (r_iald rfl rfl rfl (by decide) b0).trans ?_
  refine (r_aload_n rfl rfl rfl).trans ?_
  refine (r_getR (ci := 10) (sl := 11) s_E rfl rfl rfl rfl (by decide) rfl rfl).trans ?_
  refine (r_iload_n rfl rfl rfl).trans ?_
  refine (r_iald rfl rfl rfl (by decide) b1).trans ?_
  refine (r_icmp_ge rfl rfl rfl).trans ?_
  refine ite_congr rfl (fun h_0 => ?_) (fun h_0 => ?_)
  · refine (r_iinc (y := (-1)) rfl rfl rfl rfl rfl rfl).trans ?_
    refine (r_goto rfl rfl).trans ?_
    exact rfl
  · refine (r_aload_n rfl rfl rfl).trans ?_
    refine (r_getR (ci := 10) (sl := 11) s_E rfl rfl rfl rfl (by decide) rfl rfl).trans ?_
    refine (r_iload_n rfl rfl rfl).trans ?_
    refine (r_iald rfl rfl rfl (by decide) (b2 h_0)).trans ?_
    refine (r_istore_n rfl rfl rfl rfl).trans ?_
    refine (r_aload_n rfl rfl rfl).trans ?_
    refine (r_getR (ci := 10) (sl := 11) s_E rfl rfl rfl rfl (by decide) rfl rfl).trans ?_
    refine (r_iload_n rfl rfl rfl).trans ?_
    refine (r_aload_n rfl rfl rfl).trans ?_
    refine (r_getR (ci := 10) (sl := 11) s_E rfl rfl rfl rfl (by decide) rfl rfl).trans ?_
    refine (r_iload_n rfl rfl rfl).trans ?_
    refine (r_iald rfl rfl rfl (by decide) (b3 h_0)).trans ?_
    refine (r_iast rfl rfl rfl (by decide) (b2 h_0)).trans ?_
    refine (r_aload_n rfl rfl rfl).trans ?_
    refine (r_getR (ci := 10) (sl := 11) s_E rfl rfl rfl rfl (by decide) rfl rfl).trans ?_
    refine (r_iload_n rfl rfl rfl).trans ?_
    refine (r_iload_n rfl rfl rfl).trans ?_
    refine (r_iast rfl rfl rfl (by decide) (b3 h_0)).trans ?_
    refine (r_iload_n rfl rfl rfl).trans ?_
    refine (r_iconst (v := 1) rfl rfl rfl).trans ?_
    refine (r_iadd rfl rfl).trans ?_
    refine (r_istore rfl rfl rfl rfl).trans ?_
    refine (r_aload_n rfl rfl rfl).trans ?_
    refine (r_getR (ci := 10) (sl := 0) s_E rfl rfl rfl rfl (by decide) rfl rfl).trans ?_
    refine (r_iconst (v := 0) rfl rfl rfl).trans ?_
    refine (r_iald rfl rfl rfl (by decide) (by decide)).trans ?_
    refine (r_iconst (v := 1) rfl rfl rfl).trans ?_
    refine (r_isub rfl rfl).trans ?_
    refine (r_istore rfl rfl rfl rfl).trans ?_
    exact rfl

theorem sg_X10_nextRow_113 {d : Nat} {E : pEv} {ro : Nat → Nat → Int32} {Q : Option Value → pH → Prop} (s_E : oE E) {x1 : Int32} {x2 : Int32} {x3 : Int32} {x4 : Int32} {x5 : Int32} (b0 : (x4 < x5) → (¬ x4 < 0 ∧ x4.toNatClampNeg < 7)) (b1 : (x4 < x5) → (¬ x5 < 0 ∧ x5.toNatClampNeg < 7)) : wG d 205 (113, [.ref 101, .int x1, .int x2, .int x3, .int x4, .int x5], [], mkH E ro) Q = (if x4 < x5 then wG d 205 (113, [.ref 101, .int x1, .int x2, .int (ro 106 x4.toNatClampNeg), .int (x4 + 1), .int (x5 + (-1))], [], mkH E (uI (uI ro 106 x4.toNatClampNeg (ro 106 x5.toNatClampNeg)) 106 x5.toNatClampNeg (ro 106 x4.toNatClampNeg))) Q else Q (some (.int 1)) (mkH E ro)) := by
  refine (r_iload rfl rfl rfl).trans ?_
  refine (r_iload rfl rfl rfl).trans ?_
  refine (r_icmp_ge rfl rfl rfl).trans ?_
  refine ite_congr rfl (fun h_0 => ?_) (fun h_0 => ?_)
  · refine (r_aload_n rfl rfl rfl).trans ?_
    refine (r_getR (ci := 10) (sl := 11) s_E rfl rfl rfl rfl (by decide) rfl rfl).trans ?_
    refine (r_iload rfl rfl rfl).trans ?_
    refine (r_iald rfl rfl rfl (by decide) (b0 h_0)).trans ?_
    refine (r_istore_n rfl rfl rfl rfl).trans ?_
    refine (r_aload_n rfl rfl rfl).trans ?_
    refine (r_getR (ci := 10) (sl := 11) s_E rfl rfl rfl rfl (by decide) rfl rfl).trans ?_
    refine (r_iload rfl rfl rfl).trans ?_
    refine (r_aload_n rfl rfl rfl).trans ?_
    refine (r_getR (ci := 10) (sl := 11) s_E rfl rfl rfl rfl (by decide) rfl rfl).trans ?_
    refine (r_iload rfl rfl rfl).trans ?_
    refine (r_iald rfl rfl rfl (by decide) (b1 h_0)).trans ?_
    refine (r_iast rfl rfl rfl (by decide) (b0 h_0)).trans ?_
    refine (r_aload_n rfl rfl rfl).trans ?_
    refine (r_getR (ci := 10) (sl := 11) s_E rfl rfl rfl rfl (by decide) rfl rfl).trans ?_
    refine (r_iload rfl rfl rfl).trans ?_
    refine (r_iload_n rfl rfl rfl).trans ?_
    refine (r_iast rfl rfl rfl (by decide) (b1 h_0)).trans ?_
    refine (r_iinc (y := 1) rfl rfl rfl rfl rfl rfl).trans ?_
    refine (r_iinc (y := (-1)) rfl rfl rfl rfl rfl rfl).trans ?_
    refine (r_goto rfl rfl).trans ?_
    exact rfl
  · refine (r_iconst (v := 1) rfl rfl rfl).trans ?_
    exact r_zret rfl rfl rfl

theorem en_X10_goThrough {d : Nat} {E : pEv} {ro : Nat → Nat → Int32} {Q : Option Value → pH → Prop} (s_E : oE E) {x1 : Int32} {x2 : Int32} : wX (d + 1) 206 [.ref 101, .int x1, .int x2] (mkH E ro) Q = wX d 189 [.ref 101] (mkH E ro) (fun v h' => wG d 206 (4, [.ref 101, .int x1, .int x2, .retAddr 0, .retAddr 0, .retAddr 0], pv v [], h') Q) := by
  refine (wX_in rfl (by decide)).trans ?_
  show wG d 206 (0, [.ref 101, .int x1, .int x2, .retAddr 0, .retAddr 0, .retAddr 0], [], mkH E ro) Q = _
  refine (r_aload_n rfl rfl rfl).trans ?_
  exact r_inv (m := 189) (c := 10) rfl rfl rfl rfl rfl rfl rfl rfl

theorem sg_X10_goThrough_4 {d : Nat} {E : pEv} {ro : Nat → Nat → Int32} {Q : Option Value → pH → Prop} (s_E : oE E) {x1 : Int32} {x2 : Int32} {v3 : Value} {v4 : Value} {v5 : Value} : wG d 206 (4, [.ref 101, .int x1, .int x2, v3, v4, v5], [], mkH E ro) Q = wG d 206 (6, [.ref 101, .int x1, .int x2, .int 0, v4, v5], [], mkH E ro) Q := by
  refine (r_iconst (v := 0) rfl rfl rfl).trans ?_
  refine (r_istore_n rfl rfl rfl rfl).trans ?_
  exact rfl

theorem sg_X10_goThrough_6 {d : Nat} {E : pEv} {ro : Nat → Nat → Int32} {Q : Option Value → pH → Prop} (s_E : oE E) {x1 : Int32} {x2 : Int32} {x3 : Int32} {v4 : Value} {v5 : Value} (b0 : (x3 < (ro 102 0)) → (¬ x3 < 0 ∧ x3.toNatClampNeg < 7)) : wG d 206 (6, [.ref 101, .int x1, .int x2, .int x3, v4, v5], [], mkH E ro) Q = (if x3 < (ro 102 0) then wG d 206 (6, [.ref 101, .int x1, .int x2, .int (x3 + 1), v4, v5], [], mkH E (uI ro 106 x3.toNatClampNeg x3)) Q else wG d 206 (41, [.ref 101, .int x1, .int x2, .int 1, v4, v5], [], mkH E (uI (uI ro 101 15 (-1)) 101 16 0)) Q) := by
  refine (r_iload_n rfl rfl rfl).trans ?_
  refine (r_aload_n rfl rfl rfl).trans ?_
  refine (r_getR (ci := 10) (sl := 0) s_E rfl rfl rfl rfl (by decide) rfl rfl).trans ?_
  refine (r_iconst (v := 0) rfl rfl rfl).trans ?_
  refine (r_iald rfl rfl rfl (by decide) (by decide)).trans ?_
  refine (r_icmp_ge rfl rfl rfl).trans ?_
  refine ite_congr rfl (fun h_0 => ?_) (fun h_0 => ?_)
  · refine (r_aload_n rfl rfl rfl).trans ?_
    refine (r_getR (ci := 10) (sl := 11) s_E rfl rfl rfl rfl (by decide) rfl rfl).trans ?_
    refine (r_iload_n rfl rfl rfl).trans ?_
    refine (r_iload_n rfl rfl rfl).trans ?_
    refine (r_iast rfl rfl rfl (by decide) (b0 h_0)).trans ?_
    refine (r_iinc (y := 1) rfl rfl rfl rfl rfl rfl).trans ?_
    refine (r_goto rfl rfl).trans ?_
    exact rfl
  · refine (r_aload_n rfl rfl rfl).trans ?_
    refine (r_iconst (v := (-1)) rfl rfl rfl).trans ?_
    refine (r_putI (ci := 10) (sl := 15) rfl rfl rfl rfl (by decide)).trans ?_
    refine (r_aload_n rfl rfl rfl).trans ?_
    refine (r_iconst (v := 0) rfl rfl rfl).trans ?_
    refine (r_putI (ci := 10) (sl := 16) rfl rfl rfl rfl (by decide)).trans ?_
    refine (r_iconst (v := 1) rfl rfl rfl).trans ?_
    refine (r_istore_n rfl rfl rfl rfl).trans ?_
    exact rfl

theorem sg_X10_goThrough_41 {d : Nat} {E : pEv} {ro : Nat → Nat → Int32} {Q : Option Value → pH → Prop} (s_E : oE E) {x1 : Int32} {x2 : Int32} {x3 : Int32} {v4 : Value} {v5 : Value} : wG d 206 (41, [.ref 101, .int x1, .int x2, .int x3, v4, v5], [], mkH E ro) Q = (if x3 = 0 then Q none (mkH E ro) else (if x1 = 0 then wX d 191 [.ref 101] (mkH E ro) (fun v h' => wG d 206 (60, [.ref 101, .int x1, .int x2, .int x3, v4, v5], pv v [], h') Q) else wX d 192 [.ref 101] (mkH E ro) (fun v h' => wG d 206 (53, [.ref 101, .int x1, .int x2, .int x3, v4, v5], pv v [], h') Q))) := by
  refine (r_iload_n rfl rfl rfl).trans ?_
  refine (r_if_eq rfl rfl rfl).trans ?_
  refine ite_congr rfl (fun h_0 => ?_) (fun h_0 => ?_)
  · exact r_vret rfl rfl
  · refine (r_iload_n rfl rfl rfl).trans ?_
    refine (r_if_eq rfl rfl rfl).trans ?_
    refine ite_congr rfl (fun h_1 => ?_) (fun h_1 => ?_)
    · refine (r_aload_n rfl rfl rfl).trans ?_
      exact r_inv (m := 191) (c := 10) rfl rfl rfl rfl rfl rfl rfl rfl
    · refine (r_aload_n rfl rfl rfl).trans ?_
      exact r_inv (m := 192) (c := 10) rfl rfl rfl rfl rfl rfl rfl rfl

theorem sg_X10_goThrough_53 {d : Nat} {E : pEv} {ro : Nat → Nat → Int32} {Q : Option Value → pH → Prop} (s_E : oE E) {x1 : Int32} {x2 : Int32} {x3 : Int32} {v4 : Value} {v5 : Value} {xs0 : Int32} : wG d 206 (53, [.ref 101, .int x1, .int x2, .int x3, v4, v5], [.int xs0], mkH E ro) Q = (if x2 < xs0 then (if ((uI ro 101 16 ((ro 101 16) + 0)) 101 15) < 0 then wG d 206 (107, [.ref 101, .int x1, .int x2, .int x3, .int xs0, .int 0], [], mkH E (uI (uI ro 101 16 ((ro 101 16) + 0)) 101 15 xs0)) Q else (if xs0 < ((uI ro 101 16 ((ro 101 16) + 0)) 101 15) then wG d 206 (107, [.ref 101, .int x1, .int x2, .int x3, .int xs0, .int 0], [], mkH E (uI (uI ro 101 16 ((ro 101 16) + 0)) 101 15 xs0)) Q else wX d 205 [.ref 101] (mkH E (uI ro 101 16 ((ro 101 16) + 0))) (fun v h' => wG d 206 (142, [.ref 101, .int x1, .int x2, .int x3, .int xs0, v5], pv v [], h') Q))) else (if ((uI ro 101 16 ((ro 101 16) + 1)) 101 15) < 0 then wG d 206 (107, [.ref 101, .int x1, .int x2, .int x3, .int xs0, .int 0], [], mkH E (uI (uI ro 101 16 ((ro 101 16) + 1)) 101 15 xs0)) Q else (if xs0 < ((uI ro 101 16 ((ro 101 16) + 1)) 101 15) then wG d 206 (107, [.ref 101, .int x1, .int x2, .int x3, .int xs0, .int 0], [], mkH E (uI (uI ro 101 16 ((ro 101 16) + 1)) 101 15 xs0)) Q else wX d 205 [.ref 101] (mkH E (uI ro 101 16 ((ro 101 16) + 1))) (fun v h' => wG d 206 (142, [.ref 101, .int x1, .int x2, .int x3, .int xs0, v5], pv v [], h') Q)))) := by
  refine (r_goto rfl rfl).trans ?_
  refine (r_istore rfl rfl rfl rfl).trans ?_
  refine (r_aload_n rfl rfl rfl).trans ?_
  refine (r_dupR rfl rfl).trans ?_
  refine (r_getI (ci := 10) (sl := 16) rfl rfl rfl rfl (by decide)).trans ?_
  refine (r_iload rfl rfl rfl).trans ?_
  refine (r_iload_n rfl rfl rfl).trans ?_
  refine (r_icmp_gt rfl rfl rfl).trans ?_
  refine ite_congr rfl (fun h_0 => ?_) (fun h_0 => ?_)
  · refine (r_iconst (v := 0) rfl rfl rfl).trans ?_
    refine (r_iadd rfl rfl).trans ?_
    refine (r_putI (ci := 10) (sl := 16) rfl rfl rfl rfl (by decide)).trans ?_
    refine (r_aload_n rfl rfl rfl).trans ?_
    refine (r_getI (ci := 10) (sl := 15) rfl rfl rfl rfl (by decide)).trans ?_
    refine (r_if_lt rfl rfl rfl).trans ?_
    refine ite_congr rfl (fun h_1 => ?_) (fun h_1 => ?_)
    · refine (r_aload_n rfl rfl rfl).trans ?_
      refine (r_iload rfl rfl rfl).trans ?_
      refine (r_putI (ci := 10) (sl := 15) rfl rfl rfl rfl (by decide)).trans ?_
      refine (r_iconst (v := 0) rfl rfl rfl).trans ?_
      refine (r_istore rfl rfl rfl rfl).trans ?_
      exact rfl
    · refine (r_iload rfl rfl rfl).trans ?_
      refine (r_aload_n rfl rfl rfl).trans ?_
      refine (r_getI (ci := 10) (sl := 15) rfl rfl rfl rfl (by decide)).trans ?_
      refine (r_icmp_ge rfl rfl rfl).trans ?_
      refine ite_congr rfl (fun h_2 => ?_) (fun h_2 => ?_)
      · refine (r_aload_n rfl rfl rfl).trans ?_
        refine (r_iload rfl rfl rfl).trans ?_
        refine (r_putI (ci := 10) (sl := 15) rfl rfl rfl rfl (by decide)).trans ?_
        refine (r_iconst (v := 0) rfl rfl rfl).trans ?_
        refine (r_istore rfl rfl rfl rfl).trans ?_
        exact rfl
      · refine (r_aload_n rfl rfl rfl).trans ?_
        exact r_inv (m := 205) (c := 10) rfl rfl rfl rfl rfl rfl rfl rfl
  · refine (r_iconst (v := 1) rfl rfl rfl).trans ?_
    refine (r_goto rfl rfl).trans ?_
    refine (r_iadd rfl rfl).trans ?_
    refine (r_putI (ci := 10) (sl := 16) rfl rfl rfl rfl (by decide)).trans ?_
    refine (r_aload_n rfl rfl rfl).trans ?_
    refine (r_getI (ci := 10) (sl := 15) rfl rfl rfl rfl (by decide)).trans ?_
    refine (r_if_lt rfl rfl rfl).trans ?_
    refine ite_congr rfl (fun h_1 => ?_) (fun h_1 => ?_)
    · refine (r_aload_n rfl rfl rfl).trans ?_
      refine (r_iload rfl rfl rfl).trans ?_
      refine (r_putI (ci := 10) (sl := 15) rfl rfl rfl rfl (by decide)).trans ?_
      refine (r_iconst (v := 0) rfl rfl rfl).trans ?_
      refine (r_istore rfl rfl rfl rfl).trans ?_
      exact rfl
    · refine (r_iload rfl rfl rfl).trans ?_
      refine (r_aload_n rfl rfl rfl).trans ?_
      refine (r_getI (ci := 10) (sl := 15) rfl rfl rfl rfl (by decide)).trans ?_
      refine (r_icmp_ge rfl rfl rfl).trans ?_
      refine ite_congr rfl (fun h_2 => ?_) (fun h_2 => ?_)
      · refine (r_aload_n rfl rfl rfl).trans ?_
        refine (r_iload rfl rfl rfl).trans ?_
        refine (r_putI (ci := 10) (sl := 15) rfl rfl rfl rfl (by decide)).trans ?_
        refine (r_iconst (v := 0) rfl rfl rfl).trans ?_
        refine (r_istore rfl rfl rfl rfl).trans ?_
        exact rfl
      · refine (r_aload_n rfl rfl rfl).trans ?_
        exact r_inv (m := 205) (c := 10) rfl rfl rfl rfl rfl rfl rfl rfl

theorem sg_X10_goThrough_60 {d : Nat} {E : pEv} {ro : Nat → Nat → Int32} {Q : Option Value → pH → Prop} (s_E : oE E) {x1 : Int32} {x2 : Int32} {x3 : Int32} {v4 : Value} {v5 : Value} {xs0 : Int32} : wG d 206 (60, [.ref 101, .int x1, .int x2, .int x3, v4, v5], [.int xs0], mkH E ro) Q = (if x2 < xs0 then (if ((uI ro 101 16 ((ro 101 16) + 0)) 101 15) < 0 then wG d 206 (107, [.ref 101, .int x1, .int x2, .int x3, .int xs0, .int 0], [], mkH E (uI (uI ro 101 16 ((ro 101 16) + 0)) 101 15 xs0)) Q else (if xs0 < ((uI ro 101 16 ((ro 101 16) + 0)) 101 15) then wG d 206 (107, [.ref 101, .int x1, .int x2, .int x3, .int xs0, .int 0], [], mkH E (uI (uI ro 101 16 ((ro 101 16) + 0)) 101 15 xs0)) Q else wX d 205 [.ref 101] (mkH E (uI ro 101 16 ((ro 101 16) + 0))) (fun v h' => wG d 206 (142, [.ref 101, .int x1, .int x2, .int x3, .int xs0, v5], pv v [], h') Q))) else (if ((uI ro 101 16 ((ro 101 16) + 1)) 101 15) < 0 then wG d 206 (107, [.ref 101, .int x1, .int x2, .int x3, .int xs0, .int 0], [], mkH E (uI (uI ro 101 16 ((ro 101 16) + 1)) 101 15 xs0)) Q else (if xs0 < ((uI ro 101 16 ((ro 101 16) + 1)) 101 15) then wG d 206 (107, [.ref 101, .int x1, .int x2, .int x3, .int xs0, .int 0], [], mkH E (uI (uI ro 101 16 ((ro 101 16) + 1)) 101 15 xs0)) Q else wX d 205 [.ref 101] (mkH E (uI ro 101 16 ((ro 101 16) + 1))) (fun v h' => wG d 206 (142, [.ref 101, .int x1, .int x2, .int x3, .int xs0, v5], pv v [], h') Q)))) := by
  refine (r_istore rfl rfl rfl rfl).trans ?_
  refine (r_aload_n rfl rfl rfl).trans ?_
  refine (r_dupR rfl rfl).trans ?_
  refine (r_getI (ci := 10) (sl := 16) rfl rfl rfl rfl (by decide)).trans ?_
  refine (r_iload rfl rfl rfl).trans ?_
  refine (r_iload_n rfl rfl rfl).trans ?_
  refine (r_icmp_gt rfl rfl rfl).trans ?_
  refine ite_congr rfl (fun h_0 => ?_) (fun h_0 => ?_)
  · refine (r_iconst (v := 0) rfl rfl rfl).trans ?_
    refine (r_iadd rfl rfl).trans ?_
    refine (r_putI (ci := 10) (sl := 16) rfl rfl rfl rfl (by decide)).trans ?_
    refine (r_aload_n rfl rfl rfl).trans ?_
    refine (r_getI (ci := 10) (sl := 15) rfl rfl rfl rfl (by decide)).trans ?_
    refine (r_if_lt rfl rfl rfl).trans ?_
    refine ite_congr rfl (fun h_1 => ?_) (fun h_1 => ?_)
    · refine (r_aload_n rfl rfl rfl).trans ?_
      refine (r_iload rfl rfl rfl).trans ?_
      refine (r_putI (ci := 10) (sl := 15) rfl rfl rfl rfl (by decide)).trans ?_
      refine (r_iconst (v := 0) rfl rfl rfl).trans ?_
      refine (r_istore rfl rfl rfl rfl).trans ?_
      exact rfl
    · refine (r_iload rfl rfl rfl).trans ?_
      refine (r_aload_n rfl rfl rfl).trans ?_
      refine (r_getI (ci := 10) (sl := 15) rfl rfl rfl rfl (by decide)).trans ?_
      refine (r_icmp_ge rfl rfl rfl).trans ?_
      refine ite_congr rfl (fun h_2 => ?_) (fun h_2 => ?_)
      · refine (r_aload_n rfl rfl rfl).trans ?_
        refine (r_iload rfl rfl rfl).trans ?_
        refine (r_putI (ci := 10) (sl := 15) rfl rfl rfl rfl (by decide)).trans ?_
        refine (r_iconst (v := 0) rfl rfl rfl).trans ?_
        refine (r_istore rfl rfl rfl rfl).trans ?_
        exact rfl
      · refine (r_aload_n rfl rfl rfl).trans ?_
        exact r_inv (m := 205) (c := 10) rfl rfl rfl rfl rfl rfl rfl rfl
  · refine (r_iconst (v := 1) rfl rfl rfl).trans ?_
    refine (r_goto rfl rfl).trans ?_
    refine (r_iadd rfl rfl).trans ?_
    refine (r_putI (ci := 10) (sl := 16) rfl rfl rfl rfl (by decide)).trans ?_
    refine (r_aload_n rfl rfl rfl).trans ?_
    refine (r_getI (ci := 10) (sl := 15) rfl rfl rfl rfl (by decide)).trans ?_
    refine (r_if_lt rfl rfl rfl).trans ?_
    refine ite_congr rfl (fun h_1 => ?_) (fun h_1 => ?_)
    · refine (r_aload_n rfl rfl rfl).trans ?_
      refine (r_iload rfl rfl rfl).trans ?_
      refine (r_putI (ci := 10) (sl := 15) rfl rfl rfl rfl (by decide)).trans ?_
      refine (r_iconst (v := 0) rfl rfl rfl).trans ?_
      refine (r_istore rfl rfl rfl rfl).trans ?_
      exact rfl
    · refine (r_iload rfl rfl rfl).trans ?_
      refine (r_aload_n rfl rfl rfl).trans ?_
      refine (r_getI (ci := 10) (sl := 15) rfl rfl rfl rfl (by decide)).trans ?_
      refine (r_icmp_ge rfl rfl rfl).trans ?_
      refine ite_congr rfl (fun h_2 => ?_) (fun h_2 => ?_)
      · refine (r_aload_n rfl rfl rfl).trans ?_
        refine (r_iload rfl rfl rfl).trans ?_
        refine (r_putI (ci := 10) (sl := 15) rfl rfl rfl rfl (by decide)).trans ?_
        refine (r_iconst (v := 0) rfl rfl rfl).trans ?_
        refine (r_istore rfl rfl rfl rfl).trans ?_
        exact rfl
      · refine (r_aload_n rfl rfl rfl).trans ?_
        exact r_inv (m := 205) (c := 10) rfl rfl rfl rfl rfl rfl rfl rfl

theorem sg_X10_goThrough_107 {d : Nat} {E : pEv} {ro : Nat → Nat → Int32} {Q : Option Value → pH → Prop} (s_E : oE E) {x1 : Int32} {x2 : Int32} {x3 : Int32} {x4 : Int32} {x5 : Int32} (b0 : (x5 < (ro 102 0)) → (¬ x5 < 0 ∧ x5.toNatClampNeg < 7)) : wG d 206 (107, [.ref 101, .int x1, .int x2, .int x3, .int x4, .int x5], [], mkH E ro) Q = (if x5 < (ro 102 0) then wG d 206 (107, [.ref 101, .int x1, .int x2, .int x3, .int x4, .int (x5 + 1)], [], mkH E (uI ro 109 x5.toNatClampNeg (ro 106 x5.toNatClampNeg))) Q else wX d 205 [.ref 101] (mkH E ro) (fun v h' => wG d 206 (142, [.ref 101, .int x1, .int x2, .int x3, .int x4, .int x5], pv v [], h') Q)) := by
  refine (r_iload rfl rfl rfl).trans ?_
  refine (r_aload_n rfl rfl rfl).trans ?_
  refine (r_getR (ci := 10) (sl := 0) s_E rfl rfl rfl rfl (by decide) rfl rfl).trans ?_
  refine (r_iconst (v := 0) rfl rfl rfl).trans ?_
  refine (r_iald rfl rfl rfl (by decide) (by decide)).trans ?_
  refine (r_icmp_ge rfl rfl rfl).trans ?_
  refine ite_congr rfl (fun h_0 => ?_) (fun h_0 => ?_)
  · refine (r_aload_n rfl rfl rfl).trans ?_
    refine (r_getR (ci := 10) (sl := 14) s_E rfl rfl rfl rfl (by decide) rfl rfl).trans ?_
    refine (r_iload rfl rfl rfl).trans ?_
    refine (r_aload_n rfl rfl rfl).trans ?_
    refine (r_getR (ci := 10) (sl := 11) s_E rfl rfl rfl rfl (by decide) rfl rfl).trans ?_
    refine (r_iload rfl rfl rfl).trans ?_
    refine (r_iald rfl rfl rfl (by decide) (b0 h_0)).trans ?_
    refine (r_iast rfl rfl rfl (by decide) (b0 h_0)).trans ?_
    refine (r_iinc (y := 1) rfl rfl rfl rfl rfl rfl).trans ?_
    refine (r_goto rfl rfl).trans ?_
    exact rfl
  · refine (r_aload_n rfl rfl rfl).trans ?_
    exact r_inv (m := 205) (c := 10) rfl rfl rfl rfl rfl rfl rfl rfl

theorem sg_X10_goThrough_142 {d : Nat} {E : pEv} {ro : Nat → Nat → Int32} {Q : Option Value → pH → Prop} (s_E : oE E) {x1 : Int32} {x2 : Int32} {x3 : Int32} {x4 : Int32} {v5 : Value} {xs0 : Int32} : wG d 206 (142, [.ref 101, .int x1, .int x2, .int x3, .int x4, v5], [.int xs0], mkH E ro) Q = wG d 206 (41, [.ref 101, .int x1, .int x2, .int xs0, .int x4, v5], [], mkH E ro) Q := by
  refine (r_istore_n rfl rfl rfl rfl).trans ?_
  refine (r_goto rfl rfl).trans ?_
  exact rfl

theorem en_X10_bestTold {d : Nat} {E : pEv} {ro : Nat → Nat → Int32} {Q : Option Value → pH → Prop} (s_E : oE E) {x1 : Int32} {x2 : Int32} : wX (d + 1) 207 [.ref 101, .int x1, .int x2] (mkH E ro) Q = wX d 154 [.long x2.toInt64, .long (-1), .long 6] (mkH E ro) (fun v h' => wG d 207 (11, [.ref 101, .int x1, .int x2], pv v [], h') Q) := by
  refine (wX_in rfl (by decide)).trans ?_
  show wG d 207 (0, [.ref 101, .int x1, .int x2], [], mkH E ro) Q = _
  refine (r_iload_n rfl rfl rfl).trans ?_
  refine (r_i2l rfl rfl).trans ?_
  refine (r_ldc2_w (w := (-1)) rfl rfl rfl).trans ?_
  refine (r_ldc2_w (w := 6) rfl rfl rfl).trans ?_
  exact r_ins (m := 154) rfl rfl rfl rfl rfl rfl

theorem sg_X10_bestTold_11 {d : Nat} {E : pEv} {ro : Nat → Nat → Int32} {Q : Option Value → pH → Prop} (s_E : oE E) {x1 : Int32} {x2 : Int32} {xs0 : Int32} : wG d 207 (11, [.ref 101, .int x1, .int x2], [.int xs0], mkH E ro) Q = (if xs0 = 0 then wX d 153 [.ref 101, .int 1] (mkH E ro) (fun v h' => wG d 207 (19, [.ref 101, .int x1, .int x2], pv v [], h') Q) else (if x2 < (ro 102 0) then wX d 206 [.ref 101, .int x1, .int 0] (mkH E ro) (fun v h' => wG d 207 (42, [.ref 101, .int x1, .int x2], pv v [], h') Q) else wX d 153 [.ref 101, .int 2] (mkH E ro) (fun v h' => wG d 207 (35, [.ref 101, .int x1, .int x2], pv v [], h') Q))) := by
  refine (r_if_ne rfl rfl rfl).trans ?_
  refine ite_congr rfl (fun h_0 => ?_) (fun h_0 => ?_)
  · refine (r_aload_n rfl rfl rfl).trans ?_
    refine (r_iconst (v := 1) rfl rfl rfl).trans ?_
    exact r_inv (m := 153) (c := 10) rfl rfl rfl rfl rfl rfl rfl rfl
  · refine (r_iload_n rfl rfl rfl).trans ?_
    refine (r_aload_n rfl rfl rfl).trans ?_
    refine (r_getR (ci := 10) (sl := 0) s_E rfl rfl rfl rfl (by decide) rfl rfl).trans ?_
    refine (r_iconst (v := 0) rfl rfl rfl).trans ?_
    refine (r_iald rfl rfl rfl (by decide) (by decide)).trans ?_
    refine (r_icmp_lt rfl rfl rfl).trans ?_
    refine ite_congr rfl (fun h_1 => ?_) (fun h_1 => ?_)
    · refine (r_aload_n rfl rfl rfl).trans ?_
      refine (r_iload_n rfl rfl rfl).trans ?_
      refine (r_iconst (v := 0) rfl rfl rfl).trans ?_
      exact r_inv (m := 206) (c := 10) rfl rfl rfl rfl rfl rfl rfl rfl
    · refine (r_aload_n rfl rfl rfl).trans ?_
      refine (r_iconst (v := 2) rfl rfl rfl).trans ?_
      exact r_inv (m := 153) (c := 10) rfl rfl rfl rfl rfl rfl rfl rfl

theorem sg_X10_bestTold_19 {d : Nat} {E : pEv} {ro : Nat → Nat → Int32} {Q : Option Value → pH → Prop} (s_E : oE E) {x1 : Int32} {x2 : Int32} {xs0 : Int32} : wG d 207 (19, [.ref 101, .int x1, .int x2], [.int xs0], mkH E ro) Q = Q (some (.int xs0)) (mkH E ro) := by
  exact r_iret rfl rfl

theorem sg_X10_bestTold_35 {d : Nat} {E : pEv} {ro : Nat → Nat → Int32} {Q : Option Value → pH → Prop} (s_E : oE E) {x1 : Int32} {x2 : Int32} {xs0 : Int32} : wG d 207 (35, [.ref 101, .int x1, .int x2], [.int xs0], mkH E ro) Q = Q (some (.int xs0)) (mkH E ro) := by
  exact r_iret rfl rfl

theorem sg_X10_bestTold_42 {d : Nat} {E : pEv} {ro : Nat → Nat → Int32} {Q : Option Value → pH → Prop} (s_E : oE E) {x1 : Int32} {x2 : Int32} (b0 : (¬ x2 < 0) → (¬ x2 < 0 ∧ x2.toNatClampNeg < 7)) : wG d 207 (42, [.ref 101, .int x1, .int x2], [], mkH E ro) Q = (if x2 < 0 then Q (some (.int (ro 101 15))) (mkH E ro) else Q (some (.int (ro 109 x2.toNatClampNeg))) (mkH E ro)) := by
  refine (r_iload_n rfl rfl rfl).trans ?_
  refine (r_if_ge rfl rfl rfl).trans ?_
  refine ite_congr rfl (fun h_0 => ?_) (fun h_0 => ?_)
  · refine (r_aload_n rfl rfl rfl).trans ?_
    refine (r_getI (ci := 10) (sl := 15) rfl rfl rfl rfl (by decide)).trans ?_
    refine (r_goto rfl rfl).trans ?_
    exact r_iret rfl rfl
  · refine (r_aload_n rfl rfl rfl).trans ?_
    refine (r_getR (ci := 10) (sl := 14) s_E rfl rfl rfl rfl (by decide) rfl rfl).trans ?_
    refine (r_iload_n rfl rfl rfl).trans ?_
    refine (r_iald rfl rfl rfl (by decide) (b0 h_0)).trans ?_
    exact r_iret rfl rfl

theorem en_X10_least {d : Nat} {E : pEv} {ro : Nat → Nat → Int32} {Q : Option Value → pH → Prop} (s_E : oE E) {x1 : Int32} : wX (d + 1) 208 [.ref 101, .int x1] (mkH E ro) Q = wX d 207 [.ref 101, .int 0, .int x1] (mkH E ro) (fun v h' => wG d 208 (6, [.ref 101, .int x1], pv v [], h') Q) := by
  refine (wX_in rfl (by decide)).trans ?_
  show wG d 208 (0, [.ref 101, .int x1], [], mkH E ro) Q = _
  refine (r_aload_n rfl rfl rfl).trans ?_
  refine (r_iconst (v := 0) rfl rfl rfl).trans ?_
  refine (r_iload_n rfl rfl rfl).trans ?_
  exact r_inv (m := 207) (c := 10) rfl rfl rfl rfl rfl rfl rfl rfl

theorem sg_X10_least_6 {d : Nat} {E : pEv} {ro : Nat → Nat → Int32} {Q : Option Value → pH → Prop} (s_E : oE E) {x1 : Int32} {xs0 : Int32} : wG d 208 (6, [.ref 101, .int x1], [.int xs0], mkH E ro) Q = Q (some (.int xs0)) (mkH E ro) := by
  exact r_iret rfl rfl

theorem en_X10_fewest {d : Nat} {E : pEv} {ro : Nat → Nat → Int32} {Q : Option Value → pH → Prop} (s_E : oE E) {x1 : Int32} : wX (d + 1) 209 [.ref 101, .int x1] (mkH E ro) Q = wX d 207 [.ref 101, .int 1, .int x1] (mkH E ro) (fun v h' => wG d 209 (6, [.ref 101, .int x1], pv v [], h') Q) := by
  refine (wX_in rfl (by decide)).trans ?_
  show wG d 209 (0, [.ref 101, .int x1], [], mkH E ro) Q = _
  refine (r_aload_n rfl rfl rfl).trans ?_
  refine (r_iconst (v := 1) rfl rfl rfl).trans ?_
  refine (r_iload_n rfl rfl rfl).trans ?_
  exact r_inv (m := 207) (c := 10) rfl rfl rfl rfl rfl rfl rfl rfl

theorem sg_X10_fewest_6 {d : Nat} {E : pEv} {ro : Nat → Nat → Int32} {Q : Option Value → pH → Prop} (s_E : oE E) {x1 : Int32} {xs0 : Int32} : wG d 209 (6, [.ref 101, .int x1], [.int xs0], mkH E ro) Q = Q (some (.int xs0)) (mkH E ro) := by
  exact r_iret rfl rfl

theorem en_X10_orders {d : Nat} {E : pEv} {ro : Nat → Nat → Int32} {Q : Option Value → pH → Prop} (s_E : oE E) {x1 : Int32} : wX (d + 1) 210 [.ref 101, .int x1] (mkH E ro) Q = wX d 154 [.long x1.toInt64, .long 0, .long 9999] (mkH E ro) (fun v h' => wG d 210 (9, [.ref 101, .int x1], pv v [], h') Q) := by
  refine (wX_in rfl (by decide)).trans ?_
  show wG d 210 (0, [.ref 101, .int x1], [], mkH E ro) Q = _
  refine (r_iload_n rfl rfl rfl).trans ?_
  refine (r_i2l rfl rfl).trans ?_
  refine (r_lconst (w := 0) rfl rfl rfl).trans ?_
  refine (r_ldc2_w (w := 9999) rfl rfl rfl).trans ?_
  exact r_ins (m := 154) rfl rfl rfl rfl rfl rfl

theorem sg_X10_orders_9 {d : Nat} {E : pEv} {ro : Nat → Nat → Int32} {Q : Option Value → pH → Prop} (s_E : oE E) {x1 : Int32} {xs0 : Int32} : wG d 210 (9, [.ref 101, .int x1], [.int xs0], mkH E ro) Q = (if xs0 = 0 then wX d 153 [.ref 101, .int 1] (mkH E ro) (fun v h' => wG d 210 (17, [.ref 101, .int x1], pv v [], h') Q) else wX d 206 [.ref 101, .int 0, .int x1] (mkH E ro) (fun v h' => wG d 210 (24, [.ref 101, .int x1], pv v [], h') Q)) := by
  refine (r_if_ne rfl rfl rfl).trans ?_
  refine ite_congr rfl (fun h_0 => ?_) (fun h_0 => ?_)
  · refine (r_aload_n rfl rfl rfl).trans ?_
    refine (r_iconst (v := 1) rfl rfl rfl).trans ?_
    exact r_inv (m := 153) (c := 10) rfl rfl rfl rfl rfl rfl rfl rfl
  · refine (r_aload_n rfl rfl rfl).trans ?_
    refine (r_iconst (v := 0) rfl rfl rfl).trans ?_
    refine (r_iload_n rfl rfl rfl).trans ?_
    exact r_inv (m := 206) (c := 10) rfl rfl rfl rfl rfl rfl rfl rfl

theorem sg_X10_orders_17 {d : Nat} {E : pEv} {ro : Nat → Nat → Int32} {Q : Option Value → pH → Prop} (s_E : oE E) {x1 : Int32} {xs0 : Int32} : wG d 210 (17, [.ref 101, .int x1], [.int xs0], mkH E ro) Q = Q (some (.int xs0)) (mkH E ro) := by
  exact r_iret rfl rfl

theorem sg_X10_orders_24 {d : Nat} {E : pEv} {ro : Nat → Nat → Int32} {Q : Option Value → pH → Prop} (s_E : oE E) {x1 : Int32} : wG d 210 (24, [.ref 101, .int x1], [], mkH E ro) Q = Q (some (.int (ro 101 16))) (mkH E ro) := by
  refine (r_aload_n rfl rfl rfl).trans ?_
  refine (r_getI (ci := 10) (sl := 16) rfl rfl rfl rfl (by decide)).trans ?_
  exact r_iret rfl rfl

theorem en_X10_keepWills {d : Nat} {E : pEv} {ro : Nat → Nat → Int32} {Q : Option Value → pH → Prop} (s_E : oE E) : wX (d + 1) 211 [.ref 101] (mkH E ro) Q = wG d 211 (2, [.ref 101, .int 0], [], mkH E ro) Q := by
  refine (wX_in rfl (by decide)).trans ?_
  show wG d 211 (0, [.ref 101, .retAddr 0], [], mkH E ro) Q = _
  refine (r_iconst (v := 0) rfl rfl rfl).trans ?_
  refine (r_istore_n rfl rfl rfl rfl).trans ?_
  exact rfl

theorem sg_X10_keepWills_2 {d : Nat} {E : pEv} {ro : Nat → Nat → Int32} {Q : Option Value → pH → Prop} (s_E : oE E) {x1 : Int32} : wG d 211 (2, [.ref 101, .int x1], [], mkH E ro) Q = (if x1 < (ro 102 0) then wX d 157 [.ref 101, .int x1, .int 8] (mkH E ro) (fun v h' => wG d 211 (24, [.ref 101, .int x1], pv v [.int x1, .ref 110], h') Q) else Q none (mkH E ro)) := by
  refine (r_iload_n rfl rfl rfl).trans ?_
  refine (r_aload_n rfl rfl rfl).trans ?_
  refine (r_getR (ci := 10) (sl := 0) s_E rfl rfl rfl rfl (by decide) rfl rfl).trans ?_
  refine (r_iconst (v := 0) rfl rfl rfl).trans ?_
  refine (r_iald rfl rfl rfl (by decide) (by decide)).trans ?_
  refine (r_icmp_ge rfl rfl rfl).trans ?_
  refine ite_congr rfl (fun h_0 => ?_) (fun h_0 => ?_)
  · refine (r_aload_n rfl rfl rfl).trans ?_
    refine (r_getR (ci := 10) (sl := 17) s_E rfl rfl rfl rfl (by decide) rfl rfl).trans ?_
    refine (r_iload_n rfl rfl rfl).trans ?_
    refine (r_aload_n rfl rfl rfl).trans ?_
    refine (r_iload_n rfl rfl rfl).trans ?_
    refine (r_bipush (v := 8) rfl rfl rfl).trans ?_
    exact r_inv (m := 157) (c := 10) rfl rfl rfl rfl rfl rfl rfl rfl
  · exact r_vret rfl rfl

theorem sg_X10_keepWills_24 {d : Nat} {E : pEv} {ro : Nat → Nat → Int32} {Q : Option Value → pH → Prop} (s_E : oE E) {x1 : Int32} {xs1 : Int32} {xs2 : Int32} (b0 : (¬ xs1 < 0 ∧ xs1.toNatClampNeg < 7)) : wG d 211 (24, [.ref 101, .int x1], [.int xs2, .int xs1, .ref 110], mkH E ro) Q = wG d 211 (2, [.ref 101, .int (x1 + 1)], [], mkH E (uI ro 110 xs1.toNatClampNeg xs2)) Q := by
  refine (r_iast rfl rfl rfl (by decide) b0).trans ?_
  refine (r_iinc (y := 1) rfl rfl rfl rfl rfl rfl).trans ?_
  refine (r_goto rfl rfl).trans ?_
  exact rfl

theorem en_X10_putWillsBack {d : Nat} {E : pEv} {ro : Nat → Nat → Int32} {Q : Option Value → pH → Prop} (s_E : oE E) : wX (d + 1) 212 [.ref 101] (mkH E ro) Q = wG d 212 (2, [.ref 101, .int 0], [], mkH E ro) Q := by
  refine (wX_in rfl (by decide)).trans ?_
  show wG d 212 (0, [.ref 101, .retAddr 0], [], mkH E ro) Q = _
  refine (r_iconst (v := 0) rfl rfl rfl).trans ?_
  refine (r_istore_n rfl rfl rfl rfl).trans ?_
  exact rfl

theorem sg_X10_putWillsBack_2 {d : Nat} {E : pEv} {ro : Nat → Nat → Int32} {Q : Option Value → pH → Prop} (s_E : oE E) {x1 : Int32} (b0 : (x1 < (ro 102 0)) → (¬ x1 < 0 ∧ x1.toNatClampNeg < 7)) : wG d 212 (2, [.ref 101, .int x1], [], mkH E ro) Q = (if x1 < (ro 102 0) then wX d 158 [.ref 101, .int x1, .int 8, .int (ro 110 x1.toNatClampNeg)] (mkH E ro) (fun v h' => wG d 212 (25, [.ref 101, .int x1], pv v [], h') Q) else Q none (mkH E ro)) := by
  refine (r_iload_n rfl rfl rfl).trans ?_
  refine (r_aload_n rfl rfl rfl).trans ?_
  refine (r_getR (ci := 10) (sl := 0) s_E rfl rfl rfl rfl (by decide) rfl rfl).trans ?_
  refine (r_iconst (v := 0) rfl rfl rfl).trans ?_
  refine (r_iald rfl rfl rfl (by decide) (by decide)).trans ?_
  refine (r_icmp_ge rfl rfl rfl).trans ?_
  refine ite_congr rfl (fun h_0 => ?_) (fun h_0 => ?_)
  · refine (r_aload_n rfl rfl rfl).trans ?_
    refine (r_iload_n rfl rfl rfl).trans ?_
    refine (r_bipush (v := 8) rfl rfl rfl).trans ?_
    refine (r_aload_n rfl rfl rfl).trans ?_
    refine (r_getR (ci := 10) (sl := 17) s_E rfl rfl rfl rfl (by decide) rfl rfl).trans ?_
    refine (r_iload_n rfl rfl rfl).trans ?_
    refine (r_iald rfl rfl rfl (by decide) (b0 h_0)).trans ?_
    exact r_inv (m := 158) (c := 10) rfl rfl rfl rfl rfl rfl rfl rfl
  · exact r_vret rfl rfl

theorem sg_X10_putWillsBack_25 {d : Nat} {E : pEv} {ro : Nat → Nat → Int32} {Q : Option Value → pH → Prop} (s_E : oE E) {x1 : Int32} : wG d 212 (25, [.ref 101, .int x1], [], mkH E ro) Q = wG d 212 (2, [.ref 101, .int (x1 + 1)], [], mkH E ro) Q := by
  refine (r_iinc (y := 1) rfl rfl rfl rfl rfl rfl).trans ?_
  refine (r_goto rfl rfl).trans ?_
  exact rfl

theorem en_X10_roots {d : Nat} {E : pEv} {ro : Nat → Nat → Int32} {Q : Option Value → pH → Prop} (s_E : oE E) : wX (d + 1) 213 [.ref 101] (mkH E ro) Q = wG d 213 (4, [.ref 101, .int 0, .int 0], [], mkH E ro) Q := by
  refine (wX_in rfl (by decide)).trans ?_
  show wG d 213 (0, [.ref 101, .retAddr 0, .retAddr 0], [], mkH E ro) Q = _
  refine (r_iconst (v := 0) rfl rfl rfl).trans ?_
  refine (r_istore_n rfl rfl rfl rfl).trans ?_
  refine (r_iconst (v := 0) rfl rfl rfl).trans ?_
  refine (r_istore_n rfl rfl rfl rfl).trans ?_
  exact rfl

theorem sg_X10_roots_4 {d : Nat} {E : pEv} {ro : Nat → Nat → Int32} {Q : Option Value → pH → Prop} (s_E : oE E) {x1 : Int32} {x2 : Int32} : wG d 213 (4, [.ref 101, .int x1, .int x2], [], mkH E ro) Q = (if x2 < (ro 102 0) then wX d 157 [.ref 101, .int x2, .int 2] (mkH E ro) (fun v h' => wG d 213 (21, [.ref 101, .int x1, .int x2], pv v [.int x1], h') Q) else Q (some (.int x1)) (mkH E ro)) := by
  refine (r_iload_n rfl rfl rfl).trans ?_
  refine (r_aload_n rfl rfl rfl).trans ?_
  refine (r_getR (ci := 10) (sl := 0) s_E rfl rfl rfl rfl (by decide) rfl rfl).trans ?_
  refine (r_iconst (v := 0) rfl rfl rfl).trans ?_
  refine (r_iald rfl rfl rfl (by decide) (by decide)).trans ?_
  refine (r_icmp_ge rfl rfl rfl).trans ?_
  refine ite_congr rfl (fun h_0 => ?_) (fun h_0 => ?_)
  · refine (r_iload_n rfl rfl rfl).trans ?_
    refine (r_aload_n rfl rfl rfl).trans ?_
    refine (r_iload_n rfl rfl rfl).trans ?_
    refine (r_iconst (v := 2) rfl rfl rfl).trans ?_
    exact r_inv (m := 157) (c := 10) rfl rfl rfl rfl rfl rfl rfl rfl
  · refine (r_iload_n rfl rfl rfl).trans ?_
    exact r_iret rfl rfl

theorem sg_X10_roots_21 {d : Nat} {E : pEv} {ro : Nat → Nat → Int32} {Q : Option Value → pH → Prop} (s_E : oE E) {x1 : Int32} {x2 : Int32} {xs0 : Int32} {xs1 : Int32} : wG d 213 (21, [.ref 101, .int x1, .int x2], [.int xs1, .int xs0], mkH E ro) Q = (if xs1 = 0 then wG d 213 (4, [.ref 101, .int (xs0 ||| ((1 : Int32) <<< (x2 &&& 31))), .int (x2 + 1)], [], mkH E ro) Q else wG d 213 (4, [.ref 101, .int (xs0 ||| 0), .int (x2 + 1)], [], mkH E ro) Q) := by
  refine (r_if_ne rfl rfl rfl).trans ?_
  refine ite_congr rfl (fun h_0 => ?_) (fun h_0 => ?_)
  · refine (r_iconst (v := 1) rfl rfl rfl).trans ?_
    refine (r_iload_n rfl rfl rfl).trans ?_
    refine (r_ishl rfl rfl).trans ?_
    refine (r_goto rfl rfl).trans ?_
    refine (r_ior rfl rfl).trans ?_
    refine (r_istore_n rfl rfl rfl rfl).trans ?_
    refine (r_iinc (y := 1) rfl rfl rfl rfl rfl rfl).trans ?_
    refine (r_goto rfl rfl).trans ?_
    exact rfl
  · refine (r_iconst (v := 0) rfl rfl rfl).trans ?_
    refine (r_ior rfl rfl).trans ?_
    refine (r_istore_n rfl rfl rfl rfl).trans ?_
    refine (r_iinc (y := 1) rfl rfl rfl rfl rfl rfl).trans ?_
    refine (r_goto rfl rfl).trans ?_
    exact rfl

theorem en_X10_comingBy {d : Nat} {E : pEv} {ro : Nat → Nat → Int32} {Q : Option Value → pH → Prop} (s_E : oE E) {x1 : Int32} : wX (d + 1) 214 [.ref 101, .int x1] (mkH E ro) Q = wX d 211 [.ref 101] (mkH E ro) (fun v h' => wG d 214 (4, [.ref 101, .int x1, .retAddr 0], pv v [], h') Q) := by
  refine (wX_in rfl (by decide)).trans ?_
  show wG d 214 (0, [.ref 101, .int x1, .retAddr 0], [], mkH E ro) Q = _
  refine (r_aload_n rfl rfl rfl).trans ?_
  exact r_inv (m := 211) (c := 10) rfl rfl rfl rfl rfl rfl rfl rfl

theorem sg_X10_comingBy_4 {d : Nat} {E : pEv} {ro : Nat → Nat → Int32} {Q : Option Value → pH → Prop} (s_E : oE E) {x1 : Int32} {v2 : Value} : wG d 214 (4, [.ref 101, .int x1, v2], [], mkH E ro) Q = wG d 214 (6, [.ref 101, .int x1, .int 0], [], mkH E ro) Q := by
  refine (r_iconst (v := 0) rfl rfl rfl).trans ?_
  refine (r_istore_n rfl rfl rfl rfl).trans ?_
  exact rfl

theorem sg_X10_comingBy_6 {d : Nat} {E : pEv} {ro : Nat → Nat → Int32} {Q : Option Value → pH → Prop} (s_E : oE E) {x1 : Int32} {x2 : Int32} (b0 : (x2 < (ro 102 0)) → (¬ x2 < 0 ∧ x2.toNatClampNeg < 7)) : wG d 214 (6, [.ref 101, .int x1, .int x2], [], mkH E ro) Q = (if x2 < (ro 102 0) then wX d 158 [.ref 101, .int x2, .int 8, .int ((ro 110 x2.toNatClampNeg) ^^^ ((x1 >>> (x2 &&& 31)) &&& 1))] (mkH E ro) (fun v h' => wG d 214 (35, [.ref 101, .int x1, .int x2], pv v [], h') Q) else wX d 177 [.ref 101] (mkH E ro) (fun v h' => wG d 214 (45, [.ref 101, .int x1, .int x2], pv v [], h') Q)) := by
  refine (r_iload_n rfl rfl rfl).trans ?_
  refine (r_aload_n rfl rfl rfl).trans ?_
  refine (r_getR (ci := 10) (sl := 0) s_E rfl rfl rfl rfl (by decide) rfl rfl).trans ?_
  refine (r_iconst (v := 0) rfl rfl rfl).trans ?_
  refine (r_iald rfl rfl rfl (by decide) (by decide)).trans ?_
  refine (r_icmp_ge rfl rfl rfl).trans ?_
  refine ite_congr rfl (fun h_0 => ?_) (fun h_0 => ?_)
  · refine (r_aload_n rfl rfl rfl).trans ?_
    refine (r_iload_n rfl rfl rfl).trans ?_
    refine (r_bipush (v := 8) rfl rfl rfl).trans ?_
    refine (r_aload_n rfl rfl rfl).trans ?_
    refine (r_getR (ci := 10) (sl := 17) s_E rfl rfl rfl rfl (by decide) rfl rfl).trans ?_
    refine (r_iload_n rfl rfl rfl).trans ?_
    refine (r_iald rfl rfl rfl (by decide) (b0 h_0)).trans ?_
    refine (r_iload_n rfl rfl rfl).trans ?_
    refine (r_iload_n rfl rfl rfl).trans ?_
    refine (r_ishr rfl rfl).trans ?_
    refine (r_iconst (v := 1) rfl rfl rfl).trans ?_
    refine (r_iand rfl rfl).trans ?_
    refine (r_ixor rfl rfl).trans ?_
    exact r_inv (m := 158) (c := 10) rfl rfl rfl rfl rfl rfl rfl rfl
  · refine (r_aload_n rfl rfl rfl).trans ?_
    exact r_inv (m := 177) (c := 10) rfl rfl rfl rfl rfl rfl rfl rfl

theorem sg_X10_comingBy_35 {d : Nat} {E : pEv} {ro : Nat → Nat → Int32} {Q : Option Value → pH → Prop} (s_E : oE E) {x1 : Int32} {x2 : Int32} : wG d 214 (35, [.ref 101, .int x1, .int x2], [], mkH E ro) Q = wG d 214 (6, [.ref 101, .int x1, .int (x2 + 1)], [], mkH E ro) Q := by
  refine (r_iinc (y := 1) rfl rfl rfl rfl rfl rfl).trans ?_
  refine (r_goto rfl rfl).trans ?_
  exact rfl

theorem sg_X10_comingBy_45 {d : Nat} {E : pEv} {ro : Nat → Nat → Int32} {Q : Option Value → pH → Prop} (s_E : oE E) {x1 : Int32} {x2 : Int32} {xs0 : Int32} : wG d 214 (45, [.ref 101, .int x1, .int x2], [.int xs0], mkH E ro) Q = wX d 212 [.ref 101] (mkH E ro) (fun v h' => wG d 214 (50, [.ref 101, .int x1, .int xs0], pv v [], h') Q) := by
  refine (r_istore_n rfl rfl rfl rfl).trans ?_
  refine (r_aload_n rfl rfl rfl).trans ?_
  exact r_inv (m := 212) (c := 10) rfl rfl rfl rfl rfl rfl rfl rfl

theorem sg_X10_comingBy_50 {d : Nat} {E : pEv} {ro : Nat → Nat → Int32} {Q : Option Value → pH → Prop} (s_E : oE E) {x1 : Int32} {x2 : Int32} : wG d 214 (50, [.ref 101, .int x1, .int x2], [], mkH E ro) Q = Q (some (.int x2)) (mkH E ro) := by
  refine (r_iload_n rfl rfl rfl).trans ?_
  exact r_iret rfl rfl

theorem en_X10_mended {d : Nat} {E : pEv} {ro : Nat → Nat → Int32} {Q : Option Value → pH → Prop} (s_E : oE E) {x1 : Int32} {x2 : Int32} {x3 : Int32} : wX (d + 1) 215 [.ref 101, .int x1, .int x2, .int x3] (mkH E ro) Q = wX d 156 [.ref 101, .int x1] (mkH E ro) (fun v h' => wG d 215 (5, [.ref 101, .int x1, .int x2, .int x3, .retAddr 0, .retAddr 0, .retAddr 0, .retAddr 0], pv v [], h') Q) := by
  refine (wX_in rfl (by decide)).trans ?_
  show wG d 215 (0, [.ref 101, .int x1, .int x2, .int x3, .retAddr 0, .retAddr 0, .retAddr 0, .retAddr 0], [], mkH E ro) Q = _
  refine (r_aload_n rfl rfl rfl).trans ?_
  refine (r_iload_n rfl rfl rfl).trans ?_
  exact r_inv (m := 156) (c := 10) rfl rfl rfl rfl rfl rfl rfl rfl

theorem sg_X10_mended_5 {d : Nat} {E : pEv} {ro : Nat → Nat → Int32} {Q : Option Value → pH → Prop} (s_E : oE E) {x1 : Int32} {x2 : Int32} {x3 : Int32} {v4 : Value} {v5 : Value} {v6 : Value} {v7 : Value} {xs0 : Int32} : wG d 215 (5, [.ref 101, .int x1, .int x2, .int x3, v4, v5, v6, v7], [.int xs0], mkH E ro) Q = (if xs0 = 0 then wX d 153 [.ref 101, .int 1] (mkH E ro) (fun v h' => wG d 215 (33, [.ref 101, .int x1, .int x2, .int x3, v4, v5, v6, v7], pv v [], h') Q) else wX d 154 [.long x2.toInt64, .long 0, .long 1] (mkH E ro) (fun v h' => wG d 215 (15, [.ref 101, .int x1, .int x2, .int x3, v4, v5, v6, v7], pv v [], h') Q)) := by
  refine (r_if_eq rfl rfl rfl).trans ?_
  refine ite_congr rfl (fun h_0 => ?_) (fun h_0 => ?_)
  · refine (r_aload_n rfl rfl rfl).trans ?_
    refine (r_iconst (v := 1) rfl rfl rfl).trans ?_
    exact r_inv (m := 153) (c := 10) rfl rfl rfl rfl rfl rfl rfl rfl
  · refine (r_iload_n rfl rfl rfl).trans ?_
    refine (r_i2l rfl rfl).trans ?_
    refine (r_lconst (w := 0) rfl rfl rfl).trans ?_
    refine (r_lconst (w := 1) rfl rfl rfl).trans ?_
    exact r_ins (m := 154) rfl rfl rfl rfl rfl rfl

theorem sg_X10_mended_15 {d : Nat} {E : pEv} {ro : Nat → Nat → Int32} {Q : Option Value → pH → Prop} (s_E : oE E) {x1 : Int32} {x2 : Int32} {x3 : Int32} {v4 : Value} {v5 : Value} {v6 : Value} {v7 : Value} {xs0 : Int32} : wG d 215 (15, [.ref 101, .int x1, .int x2, .int x3, v4, v5, v6, v7], [.int xs0], mkH E ro) Q = (if xs0 = 0 then wX d 153 [.ref 101, .int 1] (mkH E ro) (fun v h' => wG d 215 (33, [.ref 101, .int x1, .int x2, .int x3, v4, v5, v6, v7], pv v [], h') Q) else wX d 154 [.long x3.toInt64, .long 0, .long 1] (mkH E ro) (fun v h' => wG d 215 (25, [.ref 101, .int x1, .int x2, .int x3, v4, v5, v6, v7], pv v [], h') Q)) := by
  refine (r_if_eq rfl rfl rfl).trans ?_
  refine ite_congr rfl (fun h_0 => ?_) (fun h_0 => ?_)
  · refine (r_aload_n rfl rfl rfl).trans ?_
    refine (r_iconst (v := 1) rfl rfl rfl).trans ?_
    exact r_inv (m := 153) (c := 10) rfl rfl rfl rfl rfl rfl rfl rfl
  · refine (r_iload_n rfl rfl rfl).trans ?_
    refine (r_i2l rfl rfl).trans ?_
    refine (r_lconst (w := 0) rfl rfl rfl).trans ?_
    refine (r_lconst (w := 1) rfl rfl rfl).trans ?_
    exact r_ins (m := 154) rfl rfl rfl rfl rfl rfl

theorem sg_X10_mended_25 {d : Nat} {E : pEv} {ro : Nat → Nat → Int32} {Q : Option Value → pH → Prop} (s_E : oE E) {x1 : Int32} {x2 : Int32} {x3 : Int32} {v4 : Value} {v5 : Value} {v6 : Value} {v7 : Value} {xs0 : Int32} : wG d 215 (25, [.ref 101, .int x1, .int x2, .int x3, v4, v5, v6, v7], [.int xs0], mkH E ro) Q = (if xs0 = 0 then wX d 153 [.ref 101, .int 1] (mkH E ro) (fun v h' => wG d 215 (33, [.ref 101, .int x1, .int x2, .int x3, v4, v5, v6, v7], pv v [], h') Q) else wX d 213 [.ref 101] (mkH E ro) (fun v h' => wG d 215 (38, [.ref 101, .int x1, .int x2, .int x3, v4, v5, v6, v7], pv v [], h') Q)) := by
  refine (r_if_ne rfl rfl rfl).trans ?_
  refine ite_congr rfl (fun h_0 => ?_) (fun h_0 => ?_)
  · refine (r_aload_n rfl rfl rfl).trans ?_
    refine (r_iconst (v := 1) rfl rfl rfl).trans ?_
    exact r_inv (m := 153) (c := 10) rfl rfl rfl rfl rfl rfl rfl rfl
  · refine (r_aload_n rfl rfl rfl).trans ?_
    exact r_inv (m := 213) (c := 10) rfl rfl rfl rfl rfl rfl rfl rfl

theorem sg_X10_mended_33 {d : Nat} {E : pEv} {ro : Nat → Nat → Int32} {Q : Option Value → pH → Prop} (s_E : oE E) {x1 : Int32} {x2 : Int32} {x3 : Int32} {v4 : Value} {v5 : Value} {v6 : Value} {v7 : Value} {xs0 : Int32} : wG d 215 (33, [.ref 101, .int x1, .int x2, .int x3, v4, v5, v6, v7], [.int xs0], mkH E ro) Q = Q (some (.int xs0)) (mkH E ro) := by
  exact r_iret rfl rfl

theorem sg_X10_mended_38 {d : Nat} {E : pEv} {ro : Nat → Nat → Int32} {Q : Option Value → pH → Prop} (s_E : oE E) {x1 : Int32} {x2 : Int32} {x3 : Int32} {v4 : Value} {v5 : Value} {v6 : Value} {v7 : Value} {xs0 : Int32} : wG d 215 (38, [.ref 101, .int x1, .int x2, .int x3, v4, v5, v6, v7], [.int xs0], mkH E ro) Q = wG d 215 (46, [.ref 101, .int x1, .int x2, .int x3, .int xs0, .int (-1), .int 0, v7], [], mkH E ro) Q := by
  refine (r_istore rfl rfl rfl rfl).trans ?_
  refine (r_iconst (v := (-1)) rfl rfl rfl).trans ?_
  refine (r_istore rfl rfl rfl rfl).trans ?_
  refine (r_iconst (v := 0) rfl rfl rfl).trans ?_
  refine (r_istore rfl rfl rfl rfl).trans ?_
  exact rfl

theorem sg_X10_mended_46 {d : Nat} {E : pEv} {ro : Nat → Nat → Int32} {Q : Option Value → pH → Prop} (s_E : oE E) {x1 : Int32} {x2 : Int32} {x3 : Int32} {x4 : Int32} {x5 : Int32} {x6 : Int32} {v7 : Value} : wG d 215 (46, [.ref 101, .int x1, .int x2, .int x3, .int x4, .int x5, .int x6, v7], [], mkH E ro) Q = (if x6 < ((1 : Int32) <<< ((ro 102 0) &&& 31)) then (if (x6 &&& (x4 ^^^ (-1))) = 0 then (if x5 < 0 then wX d 214 [.ref 101, .int x6] (mkH E ro) (fun v h' => wG d 215 (105, [.ref 101, .int x1, .int x2, .int x3, .int x4, .int x5, .int x6, .int 1], pv v [], h') Q) else wX d 159 [.int x6] (mkH E ro) (fun v h' => wG d 215 (79, [.ref 101, .int x1, .int x2, .int x3, .int x4, .int x5, .int x6, v7], pv v [], h') Q)) else wG d 215 (46, [.ref 101, .int x1, .int x2, .int x3, .int x4, .int x5, .int (x6 + 1), .int 0], [], mkH E ro) Q) else (if x5 < 0 then wX d 153 [.ref 101, .int 2] (mkH E ro) (fun v h' => wG d 215 (133, [.ref 101, .int x1, .int x2, .int x3, .int x4, .int x5, .int x6, v7], pv v [], h') Q) else (if x3 = 0 then wX d 159 [.int x5] (mkH E ro) (fun v h' => wG d 215 (145, [.ref 101, .int x1, .int x2, .int x3, .int x4, .int x5, .int x6, v7], pv v [], h') Q) else Q (some (.int x5)) (mkH E ro)))) := by
  refine (r_iload rfl rfl rfl).trans ?_
  refine (r_iconst (v := 1) rfl rfl rfl).trans ?_
  refine (r_aload_n rfl rfl rfl).trans ?_
  refine (r_getR (ci := 10) (sl := 0) s_E rfl rfl rfl rfl (by decide) rfl rfl).trans ?_
  refine (r_iconst (v := 0) rfl rfl rfl).trans ?_
  refine (r_iald rfl rfl rfl (by decide) (by decide)).trans ?_
  refine (r_ishl rfl rfl).trans ?_
  refine (r_icmp_ge rfl rfl rfl).trans ?_
  refine ite_congr rfl (fun h_0 => ?_) (fun h_0 => ?_)
  · refine (r_iload rfl rfl rfl).trans ?_
    refine (r_iload rfl rfl rfl).trans ?_
    refine (r_iconst (v := (-1)) rfl rfl rfl).trans ?_
    refine (r_ixor rfl rfl).trans ?_
    refine (r_iand rfl rfl).trans ?_
    refine (r_if_ne rfl rfl rfl).trans ?_
    refine ite_congr rfl (fun h_1 => ?_) (fun h_1 => ?_)
    · refine (r_iload rfl rfl rfl).trans ?_
      refine (r_if_lt rfl rfl rfl).trans ?_
      refine ite_congr rfl (fun h_2 => ?_) (fun h_2 => ?_)
      · refine (r_iconst (v := 1) rfl rfl rfl).trans ?_
        refine (r_goto rfl rfl).trans ?_
        refine (r_istore rfl rfl rfl rfl).trans ?_
        refine (r_iload rfl rfl rfl).trans ?_
        refine (r_if_eq rfl rfl rfl).trans ?_
        refine (if_neg (by decide)).trans ?_
        refine (r_aload_n rfl rfl rfl).trans ?_
        refine (r_iload rfl rfl rfl).trans ?_
        exact r_inv (m := 214) (c := 10) rfl rfl rfl rfl rfl rfl rfl rfl
      · refine (r_iload rfl rfl rfl).trans ?_
        exact r_ins (m := 159) rfl rfl rfl rfl rfl rfl
    · refine (r_iconst (v := 0) rfl rfl rfl).trans ?_
      refine (r_istore rfl rfl rfl rfl).trans ?_
      refine (r_iload rfl rfl rfl).trans ?_
      refine (r_if_eq rfl rfl rfl).trans ?_
      refine (if_pos (by decide)).trans ?_
      refine (r_iinc (y := 1) rfl rfl rfl rfl rfl rfl).trans ?_
      refine (r_goto rfl rfl).trans ?_
      exact rfl
  · refine (r_iload rfl rfl rfl).trans ?_
    refine (r_if_ge rfl rfl rfl).trans ?_
    refine ite_congr rfl (fun h_1 => ?_) (fun h_1 => ?_)
    · refine (r_aload_n rfl rfl rfl).trans ?_
      refine (r_iconst (v := 2) rfl rfl rfl).trans ?_
      exact r_inv (m := 153) (c := 10) rfl rfl rfl rfl rfl rfl rfl rfl
    · refine (r_iload_n rfl rfl rfl).trans ?_
      refine (r_if_ne rfl rfl rfl).trans ?_
      refine ite_congr rfl (fun h_2 => ?_) (fun h_2 => ?_)
      · refine (r_iload rfl rfl rfl).trans ?_
        exact r_ins (m := 159) rfl rfl rfl rfl rfl rfl
      · refine (r_iload rfl rfl rfl).trans ?_
        exact r_iret rfl rfl

theorem sg_X10_mended_79 {d : Nat} {E : pEv} {ro : Nat → Nat → Int32} {Q : Option Value → pH → Prop} (s_E : oE E) {x1 : Int32} {x2 : Int32} {x3 : Int32} {x4 : Int32} {x5 : Int32} {x6 : Int32} {v7 : Value} {xs0 : Int32} : wG d 215 (79, [.ref 101, .int x1, .int x2, .int x3, .int x4, .int x5, .int x6, v7], [.int xs0], mkH E ro) Q = wX d 159 [.int x5] (mkH E ro) (fun v h' => wG d 215 (84, [.ref 101, .int x1, .int x2, .int x3, .int x4, .int x5, .int x6, v7], pv v [.int xs0], h') Q) := by
  refine (r_iload rfl rfl rfl).trans ?_
  exact r_ins (m := 159) rfl rfl rfl rfl rfl rfl

theorem sg_X10_mended_84 {d : Nat} {E : pEv} {ro : Nat → Nat → Int32} {Q : Option Value → pH → Prop} (s_E : oE E) {x1 : Int32} {x2 : Int32} {x3 : Int32} {x4 : Int32} {x5 : Int32} {x6 : Int32} {v7 : Value} {xs0 : Int32} {xs1 : Int32} : wG d 215 (84, [.ref 101, .int x1, .int x2, .int x3, .int x4, .int x5, .int x6, v7], [.int xs1, .int xs0], mkH E ro) Q = (if xs0 < xs1 then wX d 214 [.ref 101, .int x6] (mkH E ro) (fun v h' => wG d 215 (105, [.ref 101, .int x1, .int x2, .int x3, .int x4, .int x5, .int x6, .int 1], pv v [], h') Q) else wG d 215 (46, [.ref 101, .int x1, .int x2, .int x3, .int x4, .int x5, .int (x6 + 1), .int 0], [], mkH E ro) Q) := by
  refine (r_icmp_ge rfl rfl rfl).trans ?_
  refine ite_congr rfl (fun h_0 => ?_) (fun h_0 => ?_)
  · refine (r_iconst (v := 1) rfl rfl rfl).trans ?_
    refine (r_goto rfl rfl).trans ?_
    refine (r_istore rfl rfl rfl rfl).trans ?_
    refine (r_iload rfl rfl rfl).trans ?_
    refine (r_if_eq rfl rfl rfl).trans ?_
    refine (if_neg (by decide)).trans ?_
    refine (r_aload_n rfl rfl rfl).trans ?_
    refine (r_iload rfl rfl rfl).trans ?_
    exact r_inv (m := 214) (c := 10) rfl rfl rfl rfl rfl rfl rfl rfl
  · refine (r_iconst (v := 0) rfl rfl rfl).trans ?_
    refine (r_istore rfl rfl rfl rfl).trans ?_
    refine (r_iload rfl rfl rfl).trans ?_
    refine (r_if_eq rfl rfl rfl).trans ?_
    refine (if_pos (by decide)).trans ?_
    refine (r_iinc (y := 1) rfl rfl rfl rfl rfl rfl).trans ?_
    refine (r_goto rfl rfl).trans ?_
    exact rfl

theorem sg_X10_mended_105 {d : Nat} {E : pEv} {ro : Nat → Nat → Int32} {Q : Option Value → pH → Prop} (s_E : oE E) {x1 : Int32} {x2 : Int32} {x3 : Int32} {x4 : Int32} {x5 : Int32} {x6 : Int32} {x7 : Int32} {xs0 : Int32} : wG d 215 (105, [.ref 101, .int x1, .int x2, .int x3, .int x4, .int x5, .int x6, .int x7], [.int xs0], mkH E ro) Q = (if ((xs0 >>> (x1 &&& 31)) &&& 1) = x2 then wG d 215 (46, [.ref 101, .int x1, .int x2, .int x3, .int x4, .int x6, .int (x6 + 1), .int x7], [], mkH E ro) Q else wG d 215 (46, [.ref 101, .int x1, .int x2, .int x3, .int x4, .int x5, .int (x6 + 1), .int x7], [], mkH E ro) Q) := by
  refine (r_iload_n rfl rfl rfl).trans ?_
  refine (r_ishr rfl rfl).trans ?_
  refine (r_iconst (v := 1) rfl rfl rfl).trans ?_
  refine (r_iand rfl rfl).trans ?_
  refine (r_iload_n rfl rfl rfl).trans ?_
  refine (r_icmp_ne rfl rfl rfl).trans ?_
  refine ite_congr rfl (fun h_0 => ?_) (fun h_0 => ?_)
  · refine (r_iload rfl rfl rfl).trans ?_
    refine (r_istore rfl rfl rfl rfl).trans ?_
    refine (r_iinc (y := 1) rfl rfl rfl rfl rfl rfl).trans ?_
    refine (r_goto rfl rfl).trans ?_
    exact rfl
  · refine (r_iinc (y := 1) rfl rfl rfl rfl rfl rfl).trans ?_
    refine (r_goto rfl rfl).trans ?_
    exact rfl

theorem sg_X10_mended_133 {d : Nat} {E : pEv} {ro : Nat → Nat → Int32} {Q : Option Value → pH → Prop} (s_E : oE E) {x1 : Int32} {x2 : Int32} {x3 : Int32} {x4 : Int32} {x5 : Int32} {x6 : Int32} {v7 : Value} {xs0 : Int32} : wG d 215 (133, [.ref 101, .int x1, .int x2, .int x3, .int x4, .int x5, .int x6, v7], [.int xs0], mkH E ro) Q = Q (some (.int xs0)) (mkH E ro) := by
  refine (r_goto rfl rfl).trans ?_
  exact r_iret rfl rfl

theorem sg_X10_mended_145 {d : Nat} {E : pEv} {ro : Nat → Nat → Int32} {Q : Option Value → pH → Prop} (s_E : oE E) {x1 : Int32} {x2 : Int32} {x3 : Int32} {x4 : Int32} {x5 : Int32} {x6 : Int32} {v7 : Value} {xs0 : Int32} : wG d 215 (145, [.ref 101, .int x1, .int x2, .int x3, .int x4, .int x5, .int x6, v7], [.int xs0], mkH E ro) Q = Q (some (.int xs0)) (mkH E ro) := by
  refine (r_goto rfl rfl).trans ?_
  exact r_iret rfl rfl

theorem en_X10_thoughts {d : Nat} {E : pEv} {ro : Nat → Nat → Int32} {Q : Option Value → pH → Prop} (s_E : oE E) {x1 : Int32} : wX (d + 1) 216 [.ref 101, .int x1] (mkH E ro) Q = wG d 216 (4, [.ref 101, .int x1, .int 0, .int 0, .retAddr 0, .retAddr 0, .retAddr 0], [], mkH E ro) Q := by
  refine (wX_in rfl (by decide)).trans ?_
  show wG d 216 (0, [.ref 101, .int x1, .retAddr 0, .retAddr 0, .retAddr 0, .retAddr 0, .retAddr 0], [], mkH E ro) Q = _
  refine (r_iconst (v := 0) rfl rfl rfl).trans ?_
  refine (r_istore_n rfl rfl rfl rfl).trans ?_
  refine (r_iconst (v := 0) rfl rfl rfl).trans ?_
  refine (r_istore_n rfl rfl rfl rfl).trans ?_
  exact rfl

theorem sg_X10_thoughts_4 {d : Nat} {E : pEv} {ro : Nat → Nat → Int32} {Q : Option Value → pH → Prop} (s_E : oE E) {x1 : Int32} {x2 : Int32} {x3 : Int32} {v4 : Value} {v5 : Value} {v6 : Value} (b0 : (x3 < x1) → (¬ (80 + x3) < 0 ∧ (80 + x3).toNatClampNeg < 264)) : wG d 216 (4, [.ref 101, .int x1, .int x2, .int x3, v4, v5, v6], [], mkH E ro) Q = (if x3 < x1 then wG d 216 (4, [.ref 101, .int x1, .int (x2 ||| ((1 : Int32) <<< ((ro 102 (80 + x3).toNatClampNeg) &&& 31))), .int (x3 + 1), v4, v5, v6], [], mkH E ro) Q else wX d 213 [.ref 101] (mkH E ro) (fun v h' => wG d 216 (33, [.ref 101, .int x1, .int x2, .int x3, v4, v5, v6], pv v [], h') Q)) := by
  refine (r_iload_n rfl rfl rfl).trans ?_
  refine (r_iload_n rfl rfl rfl).trans ?_
  refine (r_icmp_ge rfl rfl rfl).trans ?_
  refine ite_congr rfl (fun h_0 => ?_) (fun h_0 => ?_)
  · refine (r_iload_n rfl rfl rfl).trans ?_
    refine (r_iconst (v := 1) rfl rfl rfl).trans ?_
    refine (r_aload_n rfl rfl rfl).trans ?_
    refine (r_getR (ci := 10) (sl := 0) s_E rfl rfl rfl rfl (by decide) rfl rfl).trans ?_
    refine (r_bipush (v := 80) rfl rfl rfl).trans ?_
    refine (r_iload_n rfl rfl rfl).trans ?_
    refine (r_iadd rfl rfl).trans ?_
    refine (r_iald rfl rfl rfl (by decide) (b0 h_0)).trans ?_
    refine (r_ishl rfl rfl).trans ?_
    refine (r_ior rfl rfl).trans ?_
    refine (r_istore_n rfl rfl rfl rfl).trans ?_
    refine (r_iinc (y := 1) rfl rfl rfl rfl rfl rfl).trans ?_
    refine (r_goto rfl rfl).trans ?_
    exact rfl
  · refine (r_aload_n rfl rfl rfl).trans ?_
    exact r_inv (m := 213) (c := 10) rfl rfl rfl rfl rfl rfl rfl rfl

theorem sg_X10_thoughts_33 {d : Nat} {E : pEv} {ro : Nat → Nat → Int32} {Q : Option Value → pH → Prop} (s_E : oE E) {x1 : Int32} {x2 : Int32} {x3 : Int32} {v4 : Value} {v5 : Value} {v6 : Value} {xs0 : Int32} : wG d 216 (33, [.ref 101, .int x1, .int x2, .int x3, v4, v5, v6], [.int xs0], mkH E ro) Q = wX d 177 [.ref 101] (mkH E ro) (fun v h' => wG d 216 (38, [.ref 101, .int x1, .int x2, .int xs0, v4, v5, v6], pv v [], h') Q) := by
  refine (r_istore_n rfl rfl rfl rfl).trans ?_
  refine (r_aload_n rfl rfl rfl).trans ?_
  exact r_inv (m := 177) (c := 10) rfl rfl rfl rfl rfl rfl rfl rfl

theorem sg_X10_thoughts_38 {d : Nat} {E : pEv} {ro : Nat → Nat → Int32} {Q : Option Value → pH → Prop} (s_E : oE E) {x1 : Int32} {x2 : Int32} {x3 : Int32} {v4 : Value} {v5 : Value} {v6 : Value} {xs0 : Int32} : wG d 216 (38, [.ref 101, .int x1, .int x2, .int x3, v4, v5, v6], [.int xs0], mkH E ro) Q = wG d 216 (46, [.ref 101, .int x1, .int x2, .int x3, .int xs0, .int 0, .int 0], [], mkH E ro) Q := by
  refine (r_istore rfl rfl rfl rfl).trans ?_
  refine (r_iconst (v := 0) rfl rfl rfl).trans ?_
  refine (r_istore rfl rfl rfl rfl).trans ?_
  refine (r_iconst (v := 0) rfl rfl rfl).trans ?_
  refine (r_istore rfl rfl rfl rfl).trans ?_
  exact rfl

theorem sg_X10_thoughts_46 {d : Nat} {E : pEv} {ro : Nat → Nat → Int32} {Q : Option Value → pH → Prop} (s_E : oE E) {x1 : Int32} {x2 : Int32} {x3 : Int32} {x4 : Int32} {x5 : Int32} {x6 : Int32} : wG d 216 (46, [.ref 101, .int x1, .int x2, .int x3, .int x4, .int x5, .int x6], [], mkH E ro) Q = (if x6 < ((1 : Int32) <<< ((ro 102 0) &&& 31)) then (if (x6 &&& (x3 ^^^ (-1))) = 0 then wX d 214 [.ref 101, .int x6] (mkH E ro) (fun v h' => wG d 216 (76, [.ref 101, .int x1, .int x2, .int x3, .int x4, .int x5, .int x6], pv v [.int x5], h') Q) else wG d 216 (46, [.ref 101, .int x1, .int x2, .int x3, .int x4, .int x5, .int (x6 + 1)], [], mkH E ro) Q) else Q (some (.int x5)) (mkH E ro)) := by
  refine (r_iload rfl rfl rfl).trans ?_
  refine (r_iconst (v := 1) rfl rfl rfl).trans ?_
  refine (r_aload_n rfl rfl rfl).trans ?_
  refine (r_getR (ci := 10) (sl := 0) s_E rfl rfl rfl rfl (by decide) rfl rfl).trans ?_
  refine (r_iconst (v := 0) rfl rfl rfl).trans ?_
  refine (r_iald rfl rfl rfl (by decide) (by decide)).trans ?_
  refine (r_ishl rfl rfl).trans ?_
  refine (r_icmp_ge rfl rfl rfl).trans ?_
  refine ite_congr rfl (fun h_0 => ?_) (fun h_0 => ?_)
  · refine (r_iload rfl rfl rfl).trans ?_
    refine (r_iload_n rfl rfl rfl).trans ?_
    refine (r_iconst (v := (-1)) rfl rfl rfl).trans ?_
    refine (r_ixor rfl rfl).trans ?_
    refine (r_iand rfl rfl).trans ?_
    refine (r_if_ne rfl rfl rfl).trans ?_
    refine ite_congr rfl (fun h_1 => ?_) (fun h_1 => ?_)
    · refine (r_iload rfl rfl rfl).trans ?_
      refine (r_aload_n rfl rfl rfl).trans ?_
      refine (r_iload rfl rfl rfl).trans ?_
      exact r_inv (m := 214) (c := 10) rfl rfl rfl rfl rfl rfl rfl rfl
    · refine (r_iinc (y := 1) rfl rfl rfl rfl rfl rfl).trans ?_
      refine (r_goto rfl rfl).trans ?_
      exact rfl
  · refine (r_iload rfl rfl rfl).trans ?_
    exact r_iret rfl rfl

theorem sg_X10_thoughts_76 {d : Nat} {E : pEv} {ro : Nat → Nat → Int32} {Q : Option Value → pH → Prop} (s_E : oE E) {x1 : Int32} {x2 : Int32} {x3 : Int32} {x4 : Int32} {x5 : Int32} {x6 : Int32} {xs0 : Int32} {xs1 : Int32} : wG d 216 (76, [.ref 101, .int x1, .int x2, .int x3, .int x4, .int x5, .int x6], [.int xs1, .int xs0], mkH E ro) Q = (if ((xs1 ^^^ x4) &&& x2) = 0 then wG d 216 (46, [.ref 101, .int x1, .int x2, .int x3, .int x4, .int (xs0 + 1), .int (x6 + 1)], [], mkH E ro) Q else wG d 216 (46, [.ref 101, .int x1, .int x2, .int x3, .int x4, .int (xs0 + 0), .int (x6 + 1)], [], mkH E ro) Q) := by
  refine (r_iload rfl rfl rfl).trans ?_
  refine (r_ixor rfl rfl).trans ?_
  refine (r_iload_n rfl rfl rfl).trans ?_
  refine (r_iand rfl rfl).trans ?_
  refine (r_if_ne rfl rfl rfl).trans ?_
  refine ite_congr rfl (fun h_0 => ?_) (fun h_0 => ?_)
  · refine (r_iconst (v := 1) rfl rfl rfl).trans ?_
    refine (r_goto rfl rfl).trans ?_
    refine (r_iadd rfl rfl).trans ?_
    refine (r_istore rfl rfl rfl rfl).trans ?_
    refine (r_iinc (y := 1) rfl rfl rfl rfl rfl rfl).trans ?_
    refine (r_goto rfl rfl).trans ?_
    exact rfl
  · refine (r_iconst (v := 0) rfl rfl rfl).trans ?_
    refine (r_iadd rfl rfl).trans ?_
    refine (r_istore rfl rfl rfl rfl).trans ?_
    refine (r_iinc (y := 1) rfl rfl rfl rfl rfl rfl).trans ?_
    refine (r_goto rfl rfl).trans ?_
    exact rfl

theorem en_X10_thought {d : Nat} {E : pEv} {ro : Nat → Nat → Int32} {Q : Option Value → pH → Prop} (s_E : oE E) {x1 : Int32} : wX (d + 1) 217 [.ref 101, .int x1] (mkH E ro) Q = wX d 154 [.long x1.toInt64, .long 0, .long ((ro 102 0).toInt64)] (mkH E ro) (fun v h' => wG d 217 (13, [.ref 101, .int x1], pv v [], h') Q) := by
  refine (wX_in rfl (by decide)).trans ?_
  show wG d 217 (0, [.ref 101, .int x1], [], mkH E ro) Q = _
  refine (r_iload_n rfl rfl rfl).trans ?_
  refine (r_i2l rfl rfl).trans ?_
  refine (r_lconst (w := 0) rfl rfl rfl).trans ?_
  refine (r_aload_n rfl rfl rfl).trans ?_
  refine (r_getR (ci := 10) (sl := 0) s_E rfl rfl rfl rfl (by decide) rfl rfl).trans ?_
  refine (r_iconst (v := 0) rfl rfl rfl).trans ?_
  refine (r_iald rfl rfl rfl (by decide) (by decide)).trans ?_
  refine (r_i2l rfl rfl).trans ?_
  exact r_ins (m := 154) rfl rfl rfl rfl rfl rfl

theorem sg_X10_thought_13 {d : Nat} {E : pEv} {ro : Nat → Nat → Int32} {Q : Option Value → pH → Prop} (s_E : oE E) {x1 : Int32} {xs0 : Int32} : wG d 217 (13, [.ref 101, .int x1], [.int xs0], mkH E ro) Q = (if xs0 = 0 then wX d 153 [.ref 101, .int 1] (mkH E ro) (fun v h' => wG d 217 (29, [.ref 101, .int x1], pv v [], h') Q) else wX d 216 [.ref 101, .int x1] (mkH E ro) (fun v h' => wG d 217 (21, [.ref 101, .int x1], pv v [], h') Q)) := by
  refine (r_if_eq rfl rfl rfl).trans ?_
  refine ite_congr rfl (fun h_0 => ?_) (fun h_0 => ?_)
  · refine (r_aload_n rfl rfl rfl).trans ?_
    refine (r_iconst (v := 1) rfl rfl rfl).trans ?_
    exact r_inv (m := 153) (c := 10) rfl rfl rfl rfl rfl rfl rfl rfl
  · refine (r_aload_n rfl rfl rfl).trans ?_
    refine (r_iload_n rfl rfl rfl).trans ?_
    exact r_inv (m := 216) (c := 10) rfl rfl rfl rfl rfl rfl rfl rfl

theorem sg_X10_thought_21 {d : Nat} {E : pEv} {ro : Nat → Nat → Int32} {Q : Option Value → pH → Prop} (s_E : oE E) {x1 : Int32} {xs0 : Int32} : wG d 217 (21, [.ref 101, .int x1], [.int xs0], mkH E ro) Q = Q (some (.int xs0)) (mkH E ro) := by
  refine (r_goto rfl rfl).trans ?_
  exact r_iret rfl rfl

theorem sg_X10_thought_29 {d : Nat} {E : pEv} {ro : Nat → Nat → Int32} {Q : Option Value → pH → Prop} (s_E : oE E) {x1 : Int32} {xs0 : Int32} : wG d 217 (29, [.ref 101, .int x1], [.int xs0], mkH E ro) Q = Q (some (.int xs0)) (mkH E ro) := by
  exact r_iret rfl rfl

theorem en_X10_sure {d : Nat} {E : pEv} {ro : Nat → Nat → Int32} {Q : Option Value → pH → Prop} (s_E : oE E) : wX (d + 1) 218 [.ref 101] (mkH E ro) Q = wG d 218 (2, [.ref 101, .int 0], [], mkH E ro) Q := by
  refine (wX_in rfl (by decide)).trans ?_
  show wG d 218 (0, [.ref 101, .retAddr 0], [], mkH E ro) Q = _
  refine (r_iconst (v := 0) rfl rfl rfl).trans ?_
  refine (r_istore_n rfl rfl rfl rfl).trans ?_
  exact rfl

theorem sg_X10_sure_2 {d : Nat} {E : pEv} {ro : Nat → Nat → Int32} {Q : Option Value → pH → Prop} (s_E : oE E) {x1 : Int32} : wG d 218 (2, [.ref 101, .int x1], [], mkH E ro) Q = (if (ro 102 0) < x1 then wX d 153 [.ref 101, .int 2] (mkH E ro) (fun v h' => wG d 218 (34, [.ref 101, .int x1], pv v [], h') Q) else wX d 216 [.ref 101, .int x1] (mkH E ro) (fun v h' => wG d 218 (17, [.ref 101, .int x1], pv v [], h') Q)) := by
  refine (r_iload_n rfl rfl rfl).trans ?_
  refine (r_aload_n rfl rfl rfl).trans ?_
  refine (r_getR (ci := 10) (sl := 0) s_E rfl rfl rfl rfl (by decide) rfl rfl).trans ?_
  refine (r_iconst (v := 0) rfl rfl rfl).trans ?_
  refine (r_iald rfl rfl rfl (by decide) (by decide)).trans ?_
  refine (r_icmp_gt rfl rfl rfl).trans ?_
  refine ite_congr rfl (fun h_0 => ?_) (fun h_0 => ?_)
  · refine (r_aload_n rfl rfl rfl).trans ?_
    refine (r_iconst (v := 2) rfl rfl rfl).trans ?_
    exact r_inv (m := 153) (c := 10) rfl rfl rfl rfl rfl rfl rfl rfl
  · refine (r_aload_n rfl rfl rfl).trans ?_
    refine (r_iload_n rfl rfl rfl).trans ?_
    exact r_inv (m := 216) (c := 10) rfl rfl rfl rfl rfl rfl rfl rfl

theorem sg_X10_sure_17 {d : Nat} {E : pEv} {ro : Nat → Nat → Int32} {Q : Option Value → pH → Prop} (s_E : oE E) {x1 : Int32} {xs0 : Int32} : wG d 218 (17, [.ref 101, .int x1], [.int xs0], mkH E ro) Q = (if xs0 = 1 then Q (some (.int x1)) (mkH E ro) else wG d 218 (2, [.ref 101, .int (x1 + 1)], [], mkH E ro) Q) := by
  refine (r_iconst (v := 1) rfl rfl rfl).trans ?_
  refine (r_icmp_ne rfl rfl rfl).trans ?_
  refine ite_congr rfl (fun h_0 => ?_) (fun h_0 => ?_)
  · refine (r_iload_n rfl rfl rfl).trans ?_
    exact r_iret rfl rfl
  · refine (r_iinc (y := 1) rfl rfl rfl rfl rfl rfl).trans ?_
    refine (r_goto rfl rfl).trans ?_
    exact rfl

theorem sg_X10_sure_34 {d : Nat} {E : pEv} {ro : Nat → Nat → Int32} {Q : Option Value → pH → Prop} (s_E : oE E) {x1 : Int32} {xs0 : Int32} : wG d 218 (34, [.ref 101, .int x1], [.int xs0], mkH E ro) Q = Q (some (.int xs0)) (mkH E ro) := by
  exact r_iret rfl rfl

theorem en_X10_explained {d : Nat} {E : pEv} {ro : Nat → Nat → Int32} {Q : Option Value → pH → Prop} (s_E : oE E) {x1 : Int32} {x2 : Int32} : wX (d + 1) 219 [.ref 101, .int x1, .int x2] (mkH E ro) Q = wX d 156 [.ref 101, .int x1] (mkH E ro) (fun v h' => wG d 219 (5, [.ref 101, .int x1, .int x2, .retAddr 0, .retAddr 0, .retAddr 0], pv v [], h') Q) := by
  refine (wX_in rfl (by decide)).trans ?_
  show wG d 219 (0, [.ref 101, .int x1, .int x2, .retAddr 0, .retAddr 0, .retAddr 0], [], mkH E ro) Q = _
  refine (r_aload_n rfl rfl rfl).trans ?_
  refine (r_iload_n rfl rfl rfl).trans ?_
  exact r_inv (m := 156) (c := 10) rfl rfl rfl rfl rfl rfl rfl rfl

theorem sg_X10_explained_5 {d : Nat} {E : pEv} {ro : Nat → Nat → Int32} {Q : Option Value → pH → Prop} (s_E : oE E) {x1 : Int32} {x2 : Int32} {v3 : Value} {v4 : Value} {v5 : Value} {xs0 : Int32} : wG d 219 (5, [.ref 101, .int x1, .int x2, v3, v4, v5], [.int xs0], mkH E ro) Q = (if xs0 = 0 then wX d 153 [.ref 101, .int 1] (mkH E ro) (fun v h' => wG d 219 (33, [.ref 101, .int x1, .int x2, v3, v4, v5], pv v [], h') Q) else wX d 154 [.long x2.toInt64, .long 0, .long ((((1 : Int32) <<< ((ro 102 0) &&& 31)) - 1).toInt64)] (mkH E ro) (fun v h' => wG d 219 (25, [.ref 101, .int x1, .int x2, v3, v4, v5], pv v [], h') Q)) := by
  refine (r_if_eq rfl rfl rfl).trans ?_
  refine ite_congr rfl (fun h_0 => ?_) (fun h_0 => ?_)
  · refine (r_aload_n rfl rfl rfl).trans ?_
    refine (r_iconst (v := 1) rfl rfl rfl).trans ?_
    exact r_inv (m := 153) (c := 10) rfl rfl rfl rfl rfl rfl rfl rfl
  · refine (r_iload_n rfl rfl rfl).trans ?_
    refine (r_i2l rfl rfl).trans ?_
    refine (r_lconst (w := 0) rfl rfl rfl).trans ?_
    refine (r_iconst (v := 1) rfl rfl rfl).trans ?_
    refine (r_aload_n rfl rfl rfl).trans ?_
    refine (r_getR (ci := 10) (sl := 0) s_E rfl rfl rfl rfl (by decide) rfl rfl).trans ?_
    refine (r_iconst (v := 0) rfl rfl rfl).trans ?_
    refine (r_iald rfl rfl rfl (by decide) (by decide)).trans ?_
    refine (r_ishl rfl rfl).trans ?_
    refine (r_iconst (v := 1) rfl rfl rfl).trans ?_
    refine (r_isub rfl rfl).trans ?_
    refine (r_i2l rfl rfl).trans ?_
    exact r_ins (m := 154) rfl rfl rfl rfl rfl rfl

theorem sg_X10_explained_25 {d : Nat} {E : pEv} {ro : Nat → Nat → Int32} {Q : Option Value → pH → Prop} (s_E : oE E) {x1 : Int32} {x2 : Int32} {v3 : Value} {v4 : Value} {v5 : Value} {xs0 : Int32} : wG d 219 (25, [.ref 101, .int x1, .int x2, v3, v4, v5], [.int xs0], mkH E ro) Q = (if xs0 = 0 then wX d 153 [.ref 101, .int 1] (mkH E ro) (fun v h' => wG d 219 (33, [.ref 101, .int x1, .int x2, v3, v4, v5], pv v [], h') Q) else wX d 157 [.ref 101, .int x1, .int 0] (mkH E ro) (fun v h' => wG d 219 (40, [.ref 101, .int x1, .int x2, v3, v4, v5], pv v [], h') Q)) := by
  refine (r_if_ne rfl rfl rfl).trans ?_
  refine ite_congr rfl (fun h_0 => ?_) (fun h_0 => ?_)
  · refine (r_aload_n rfl rfl rfl).trans ?_
    refine (r_iconst (v := 1) rfl rfl rfl).trans ?_
    exact r_inv (m := 153) (c := 10) rfl rfl rfl rfl rfl rfl rfl rfl
  · refine (r_aload_n rfl rfl rfl).trans ?_
    refine (r_iload_n rfl rfl rfl).trans ?_
    refine (r_iconst (v := 0) rfl rfl rfl).trans ?_
    exact r_inv (m := 157) (c := 10) rfl rfl rfl rfl rfl rfl rfl rfl

theorem sg_X10_explained_33 {d : Nat} {E : pEv} {ro : Nat → Nat → Int32} {Q : Option Value → pH → Prop} (s_E : oE E) {x1 : Int32} {x2 : Int32} {v3 : Value} {v4 : Value} {v5 : Value} {xs0 : Int32} : wG d 219 (33, [.ref 101, .int x1, .int x2, v3, v4, v5], [.int xs0], mkH E ro) Q = Q (some (.int xs0)) (mkH E ro) := by
  exact r_iret rfl rfl

theorem sg_X10_explained_40 {d : Nat} {E : pEv} {ro : Nat → Nat → Int32} {Q : Option Value → pH → Prop} (s_E : oE E) {x1 : Int32} {x2 : Int32} {v3 : Value} {v4 : Value} {v5 : Value} {xs0 : Int32} : wG d 219 (40, [.ref 101, .int x1, .int x2, v3, v4, v5], [.int xs0], mkH E ro) Q = wG d 219 (48, [.ref 101, .int x1, .int x2, .int xs0, .int (-1), .int 6], [], mkH E ro) Q := by
  refine (r_istore_n rfl rfl rfl rfl).trans ?_
  refine (r_iconst (v := (-1)) rfl rfl rfl).trans ?_
  refine (r_istore rfl rfl rfl rfl).trans ?_
  refine (r_bipush (v := 6) rfl rfl rfl).trans ?_
  refine (r_istore rfl rfl rfl rfl).trans ?_
  exact rfl

theorem sg_X10_explained_48 {d : Nat} {E : pEv} {ro : Nat → Nat → Int32} {Q : Option Value → pH → Prop} (s_E : oE E) {x1 : Int32} {x2 : Int32} {x3 : Int32} {x4 : Int32} {x5 : Int32} : wG d 219 (48, [.ref 101, .int x1, .int x2, .int x3, .int x4, .int x5], [], mkH E ro) Q = (if x5 < 0 then wX d 158 [.ref 101, .int x1, .int 0, .int x3] (mkH E ro) (fun v h' => wG d 219 (91, [.ref 101, .int x1, .int x2, .int x3, .int x4, .int x5], pv v [], h') Q) else wX d 158 [.ref 101, .int x1, .int 0, .int x5] (mkH E ro) (fun v h' => wG d 219 (61, [.ref 101, .int x1, .int x2, .int x3, .int x4, .int x5], pv v [], h') Q)) := by
  refine (r_iload rfl rfl rfl).trans ?_
  refine (r_if_lt rfl rfl rfl).trans ?_
  refine ite_congr rfl (fun h_0 => ?_) (fun h_0 => ?_)
  · refine (r_aload_n rfl rfl rfl).trans ?_
    refine (r_iload_n rfl rfl rfl).trans ?_
    refine (r_iconst (v := 0) rfl rfl rfl).trans ?_
    refine (r_iload_n rfl rfl rfl).trans ?_
    exact r_inv (m := 158) (c := 10) rfl rfl rfl rfl rfl rfl rfl rfl
  · refine (r_aload_n rfl rfl rfl).trans ?_
    refine (r_iload_n rfl rfl rfl).trans ?_
    refine (r_iconst (v := 0) rfl rfl rfl).trans ?_
    refine (r_iload rfl rfl rfl).trans ?_
    exact r_inv (m := 158) (c := 10) rfl rfl rfl rfl rfl rfl rfl rfl

theorem sg_X10_explained_61 {d : Nat} {E : pEv} {ro : Nat → Nat → Int32} {Q : Option Value → pH → Prop} (s_E : oE E) {x1 : Int32} {x2 : Int32} {x3 : Int32} {x4 : Int32} {x5 : Int32} : wG d 219 (61, [.ref 101, .int x1, .int x2, .int x3, .int x4, .int x5], [], mkH E ro) Q = wX d 177 [.ref 101] (mkH E ro) (fun v h' => wG d 219 (65, [.ref 101, .int x1, .int x2, .int x3, .int x4, .int x5], pv v [], h') Q) := by
  refine (r_aload_n rfl rfl rfl).trans ?_
  exact r_inv (m := 177) (c := 10) rfl rfl rfl rfl rfl rfl rfl rfl

theorem sg_X10_explained_65 {d : Nat} {E : pEv} {ro : Nat → Nat → Int32} {Q : Option Value → pH → Prop} (s_E : oE E) {x1 : Int32} {x2 : Int32} {x3 : Int32} {x4 : Int32} {x5 : Int32} {xs0 : Int32} : wG d 219 (65, [.ref 101, .int x1, .int x2, .int x3, .int x4, .int x5], [.int xs0], mkH E ro) Q = (if xs0 = x2 then wG d 219 (48, [.ref 101, .int x1, .int x2, .int x3, .int x5, .int (x5 + (-1))], [], mkH E ro) Q else wG d 219 (48, [.ref 101, .int x1, .int x2, .int x3, .int x4, .int (x5 + (-1))], [], mkH E ro) Q) := by
  refine (r_iload_n rfl rfl rfl).trans ?_
  refine (r_icmp_ne rfl rfl rfl).trans ?_
  refine ite_congr rfl (fun h_0 => ?_) (fun h_0 => ?_)
  · refine (r_iload rfl rfl rfl).trans ?_
    refine (r_goto rfl rfl).trans ?_
    refine (r_istore rfl rfl rfl rfl).trans ?_
    refine (r_iinc (y := (-1)) rfl rfl rfl rfl rfl rfl).trans ?_
    refine (r_goto rfl rfl).trans ?_
    exact rfl
  · refine (r_iload rfl rfl rfl).trans ?_
    refine (r_istore rfl rfl rfl rfl).trans ?_
    refine (r_iinc (y := (-1)) rfl rfl rfl rfl rfl rfl).trans ?_
    refine (r_goto rfl rfl).trans ?_
    exact rfl

theorem sg_X10_explained_91 {d : Nat} {E : pEv} {ro : Nat → Nat → Int32} {Q : Option Value → pH → Prop} (s_E : oE E) {x1 : Int32} {x2 : Int32} {x3 : Int32} {x4 : Int32} {x5 : Int32} : wG d 219 (91, [.ref 101, .int x1, .int x2, .int x3, .int x4, .int x5], [], mkH E ro) Q = (if x4 < 0 then wX d 153 [.ref 101, .int 2] (mkH E ro) (fun v h' => wG d 219 (101, [.ref 101, .int x1, .int x2, .int x3, .int x4, .int x5], pv v [], h') Q) else Q (some (.int x4)) (mkH E ro)) := by
  refine (r_iload rfl rfl rfl).trans ?_
  refine (r_if_ge rfl rfl rfl).trans ?_
  refine ite_congr rfl (fun h_0 => ?_) (fun h_0 => ?_)
  · refine (r_aload_n rfl rfl rfl).trans ?_
    refine (r_iconst (v := 2) rfl rfl rfl).trans ?_
    exact r_inv (m := 153) (c := 10) rfl rfl rfl rfl rfl rfl rfl rfl
  · refine (r_iload rfl rfl rfl).trans ?_
    exact r_iret rfl rfl

theorem sg_X10_explained_101 {d : Nat} {E : pEv} {ro : Nat → Nat → Int32} {Q : Option Value → pH → Prop} (s_E : oE E) {x1 : Int32} {x2 : Int32} {x3 : Int32} {x4 : Int32} {x5 : Int32} {xs0 : Int32} : wG d 219 (101, [.ref 101, .int x1, .int x2, .int x3, .int x4, .int x5], [.int xs0], mkH E ro) Q = Q (some (.int xs0)) (mkH E ro) := by
  refine (r_goto rfl rfl).trans ?_
  exact r_iret rfl rfl

theorem en_X10_evening {d : Nat} {E : pEv} {ro : Nat → Nat → Int32} {Q : Option Value → pH → Prop} (s_E : oE E) : wX (d + 1) 220 [.ref 101] (mkH E ro) Q = wX d 193 [.ref 101] (mkH E ro) (fun v h' => wG d 220 (17, [.ref 101], pv v [.int 1, .ref 101, .int (ro 102 3), .int 3, .ref 102], h') Q) := by
  refine (wX_in rfl (by decide)).trans ?_
  show wG d 220 (0, [.ref 101], [], mkH E ro) Q = _
  refine (r_aload_n rfl rfl rfl).trans ?_
  refine (r_getR (ci := 10) (sl := 0) s_E rfl rfl rfl rfl (by decide) rfl rfl).trans ?_
  refine (r_iconst (v := 3) rfl rfl rfl).trans ?_
  refine (r_aload_n rfl rfl rfl).trans ?_
  refine (r_getR (ci := 10) (sl := 0) s_E rfl rfl rfl rfl (by decide) rfl rfl).trans ?_
  refine (r_iconst (v := 3) rfl rfl rfl).trans ?_
  refine (r_iald rfl rfl rfl (by decide) (by decide)).trans ?_
  refine (r_aload_n rfl rfl rfl).trans ?_
  refine (r_iconst (v := 1) rfl rfl rfl).trans ?_
  refine (r_aload_n rfl rfl rfl).trans ?_
  exact r_inv (m := 193) (c := 10) rfl rfl rfl rfl rfl rfl rfl rfl

theorem sg_X10_evening_17 {d : Nat} {E : pEv} {ro : Nat → Nat → Int32} {Q : Option Value → pH → Prop} (s_E : oE E) {xs1 : Int32} {xs2 : Int32} {xs4 : Int32} {xs5 : Int32} : wG d 220 (17, [.ref 101], [.int xs5, .int xs4, .ref 101, .int xs2, .int xs1, .ref 102], mkH E ro) Q = wX d 194 [.ref 101] (mkH E ro) (fun v h' => wG d 220 (21, [.ref 101], pv v [.int xs5, .int xs4, .ref 101, .int xs2, .int xs1, .ref 102], h') Q) := by
  refine (r_aload_n rfl rfl rfl).trans ?_
  exact r_inv (m := 194) (c := 10) rfl rfl rfl rfl rfl rfl rfl rfl

theorem sg_X10_evening_21 {d : Nat} {E : pEv} {ro : Nat → Nat → Int32} {Q : Option Value → pH → Prop} (s_E : oE E) {xs1 : Int32} {xs2 : Int32} {xs4 : Int32} {xs5 : Int32} {xs6 : Int32} : wG d 220 (21, [.ref 101], [.int xs6, .int xs5, .int xs4, .ref 101, .int xs2, .int xs1, .ref 102], mkH E ro) Q = wX d 195 [.ref 101] (mkH E ro) (fun v h' => wG d 220 (25, [.ref 101], pv v [.int xs6, .int xs5, .int xs4, .ref 101, .int xs2, .int xs1, .ref 102], h') Q) := by
  refine (r_aload_n rfl rfl rfl).trans ?_
  exact r_inv (m := 195) (c := 10) rfl rfl rfl rfl rfl rfl rfl rfl

theorem sg_X10_evening_25 {d : Nat} {E : pEv} {ro : Nat → Nat → Int32} {Q : Option Value → pH → Prop} (s_E : oE E) {xs1 : Int32} {xs2 : Int32} {xs4 : Int32} {xs5 : Int32} {xs6 : Int32} {xs7 : Int32} : wG d 220 (25, [.ref 101], [.int xs7, .int xs6, .int xs5, .int xs4, .ref 101, .int xs2, .int xs1, .ref 102], mkH E ro) Q = wX d 173 [.ref 101, .int xs4, .int xs5, .int xs6, .int xs7] (mkH E ro) (fun v h' => wG d 220 (28, [.ref 101], pv v [.int xs2, .int xs1, .ref 102], h') Q) := by
  exact r_inv (m := 173) (c := 10) rfl rfl rfl rfl rfl rfl rfl rfl

theorem sg_X10_evening_28 {d : Nat} {E : pEv} {ro : Nat → Nat → Int32} {Q : Option Value → pH → Prop} (s_E : oE E) {xs1 : Int32} {xs2 : Int32} {xs3 : Int32} : wG d 220 (28, [.ref 101], [.int xs3, .int xs2, .int xs1, .ref 102], mkH E ro) Q = wX d 155 [.int (xs2 + xs3), .int (-99999), .int 99999] (mkH E ro) (fun v h' => wG d 220 (36, [.ref 101], pv v [.int xs1, .ref 102], h') Q) := by
  refine (r_iadd rfl rfl).trans ?_
  refine (r_ldc (v := (-99999)) rfl rfl rfl).trans ?_
  refine (r_ldc (v := 99999) rfl rfl rfl).trans ?_
  exact r_ins (m := 155) rfl rfl rfl rfl rfl rfl

theorem sg_X10_evening_36 {d : Nat} {E : pEv} {ro : Nat → Nat → Int32} {Q : Option Value → pH → Prop} (s_E : oE E) {xs1 : Int32} {xs2 : Int32} (b0 : (¬ xs1 < 0 ∧ xs1.toNatClampNeg < 264)) : wG d 220 (36, [.ref 101], [.int xs2, .int xs1, .ref 102], mkH E ro) Q = Q none (mkH E (uI (uI ro 102 xs1.toNatClampNeg xs2) 102 4 (((uI ro 102 xs1.toNatClampNeg xs2) 102 4) + 1))) := by
  refine (r_iast rfl rfl rfl (by decide) b0).trans ?_
  refine (r_aload_n rfl rfl rfl).trans ?_
  refine (r_getR (ci := 10) (sl := 0) s_E rfl rfl rfl rfl (by decide) rfl rfl).trans ?_
  refine (r_iconst (v := 4) rfl rfl rfl).trans ?_
  refine (r_dup2 rfl rfl).trans ?_
  refine (r_iald rfl rfl rfl (by decide) (by decide)).trans ?_
  refine (r_iconst (v := 1) rfl rfl rfl).trans ?_
  refine (r_iadd rfl rfl).trans ?_
  refine (r_iast rfl rfl rfl (by decide) (by decide)).trans ?_
  exact r_vret rfl rfl

theorem en_X10_evenings {d : Nat} {E : pEv} {ro : Nat → Nat → Int32} {Q : Option Value → pH → Prop} (s_E : oE E) {x1 : Int32} : wX (d + 1) 221 [.ref 101, .int x1] (mkH E ro) Q = wX d 154 [.long x1.toInt64, .long 1, .long 200] (mkH E ro) (fun v h' => wG d 221 (9, [.ref 101, .int x1, .retAddr 0], pv v [], h') Q) := by
  refine (wX_in rfl (by decide)).trans ?_
  show wG d 221 (0, [.ref 101, .int x1, .retAddr 0], [], mkH E ro) Q = _
  refine (r_iload_n rfl rfl rfl).trans ?_
  refine (r_i2l rfl rfl).trans ?_
  refine (r_lconst (w := 1) rfl rfl rfl).trans ?_
  refine (r_ldc2_w (w := 200) rfl rfl rfl).trans ?_
  exact r_ins (m := 154) rfl rfl rfl rfl rfl rfl

theorem sg_X10_evenings_9 {d : Nat} {E : pEv} {ro : Nat → Nat → Int32} {Q : Option Value → pH → Prop} (s_E : oE E) {x1 : Int32} {v2 : Value} {xs0 : Int32} : wG d 221 (9, [.ref 101, .int x1, v2], [.int xs0], mkH E ro) Q = (if xs0 = 0 then wX d 153 [.ref 101, .int 1] (mkH E ro) (fun v h' => wG d 221 (17, [.ref 101, .int x1, v2], pv v [], h') Q) else (if 9999 < ((ro 102 4) + x1) then wX d 153 [.ref 101, .int 3] (mkH E ro) (fun v h' => wG d 221 (37, [.ref 101, .int x1, v2], pv v [], h') Q) else wG d 221 (40, [.ref 101, .int x1, .int 0], [], mkH E ro) Q)) := by
  refine (r_if_ne rfl rfl rfl).trans ?_
  refine ite_congr rfl (fun h_0 => ?_) (fun h_0 => ?_)
  · refine (r_aload_n rfl rfl rfl).trans ?_
    refine (r_iconst (v := 1) rfl rfl rfl).trans ?_
    exact r_inv (m := 153) (c := 10) rfl rfl rfl rfl rfl rfl rfl rfl
  · refine (r_aload_n rfl rfl rfl).trans ?_
    refine (r_getR (ci := 10) (sl := 0) s_E rfl rfl rfl rfl (by decide) rfl rfl).trans ?_
    refine (r_iconst (v := 4) rfl rfl rfl).trans ?_
    refine (r_iald rfl rfl rfl (by decide) (by decide)).trans ?_
    refine (r_iload_n rfl rfl rfl).trans ?_
    refine (r_iadd rfl rfl).trans ?_
    refine (r_sipush (v := 9999) rfl rfl rfl).trans ?_
    refine (r_icmp_le rfl rfl rfl).trans ?_
    refine ite_congr rfl (fun h_1 => ?_) (fun h_1 => ?_)
    · refine (r_aload_n rfl rfl rfl).trans ?_
      refine (r_iconst (v := 3) rfl rfl rfl).trans ?_
      exact r_inv (m := 153) (c := 10) rfl rfl rfl rfl rfl rfl rfl rfl
    · refine (r_iconst (v := 0) rfl rfl rfl).trans ?_
      refine (r_istore_n rfl rfl rfl rfl).trans ?_
      exact rfl

theorem sg_X10_evenings_17 {d : Nat} {E : pEv} {ro : Nat → Nat → Int32} {Q : Option Value → pH → Prop} (s_E : oE E) {x1 : Int32} {v2 : Value} {xs0 : Int32} : wG d 221 (17, [.ref 101, .int x1, v2], [.int xs0], mkH E ro) Q = Q (some (.int xs0)) (mkH E ro) := by
  exact r_iret rfl rfl

theorem sg_X10_evenings_37 {d : Nat} {E : pEv} {ro : Nat → Nat → Int32} {Q : Option Value → pH → Prop} (s_E : oE E) {x1 : Int32} {v2 : Value} {xs0 : Int32} : wG d 221 (37, [.ref 101, .int x1, v2], [.int xs0], mkH E ro) Q = Q (some (.int xs0)) (mkH E ro) := by
  exact r_iret rfl rfl

theorem sg_X10_evenings_40 {d : Nat} {E : pEv} {ro : Nat → Nat → Int32} {Q : Option Value → pH → Prop} (s_E : oE E) {x1 : Int32} {x2 : Int32} : wG d 221 (40, [.ref 101, .int x1, .int x2], [], mkH E ro) Q = (if x2 < x1 then wX d 220 [.ref 101] (mkH E ro) (fun v h' => wG d 221 (49, [.ref 101, .int x1, .int x2], pv v [], h') Q) else Q (some (.int (ro 102 3))) (mkH E ro)) := by
  refine (r_iload_n rfl rfl rfl).trans ?_
  refine (r_iload_n rfl rfl rfl).trans ?_
  refine (r_icmp_ge rfl rfl rfl).trans ?_
  refine ite_congr rfl (fun h_0 => ?_) (fun h_0 => ?_)
  · refine (r_aload_n rfl rfl rfl).trans ?_
    exact r_inv (m := 220) (c := 10) rfl rfl rfl rfl rfl rfl rfl rfl
  · refine (r_aload_n rfl rfl rfl).trans ?_
    refine (r_getR (ci := 10) (sl := 0) s_E rfl rfl rfl rfl (by decide) rfl rfl).trans ?_
    refine (r_iconst (v := 3) rfl rfl rfl).trans ?_
    refine (r_iald rfl rfl rfl (by decide) (by decide)).trans ?_
    exact r_iret rfl rfl

theorem sg_X10_evenings_49 {d : Nat} {E : pEv} {ro : Nat → Nat → Int32} {Q : Option Value → pH → Prop} (s_E : oE E) {x1 : Int32} {x2 : Int32} : wG d 221 (49, [.ref 101, .int x1, .int x2], [], mkH E ro) Q = wG d 221 (40, [.ref 101, .int x1, .int (x2 + 1)], [], mkH E ro) Q := by
  refine (r_iinc (y := 1) rfl rfl rfl rfl rfl rfl).trans ?_
  refine (r_goto rfl rfl).trans ?_
  exact rfl

theorem en_X10_drawn {d : Nat} {E : pEv} {ro : Nat → Nat → Int32} {Q : Option Value → pH → Prop} (s_E : oE E) : wX (d + 1) 222 [.ref 101] (mkH E ro) Q = Q (some (.int ((((uI ro 102 1 (((ro 102 1) * 1103515245) + 12345)) 102 1).toUInt32 >>> ((8 : Int32).toUInt32 &&& Int32.toUInt32 31)).toInt32))) (mkH E (uI ro 102 1 (((ro 102 1) * 1103515245) + 12345))) := by
  refine (wX_in rfl (by decide)).trans ?_
  show wG d 222 (0, [.ref 101], [], mkH E ro) Q = _
  refine (r_aload_n rfl rfl rfl).trans ?_
  refine (r_getR (ci := 10) (sl := 0) s_E rfl rfl rfl rfl (by decide) rfl rfl).trans ?_
  refine (r_iconst (v := 1) rfl rfl rfl).trans ?_
  refine (r_aload_n rfl rfl rfl).trans ?_
  refine (r_getR (ci := 10) (sl := 0) s_E rfl rfl rfl rfl (by decide) rfl rfl).trans ?_
  refine (r_iconst (v := 1) rfl rfl rfl).trans ?_
  refine (r_iald rfl rfl rfl (by decide) (by decide)).trans ?_
  refine (r_ldc (v := 1103515245) rfl rfl rfl).trans ?_
  refine (r_imul rfl rfl).trans ?_
  refine (r_sipush (v := 12345) rfl rfl rfl).trans ?_
  refine (r_iadd rfl rfl).trans ?_
  refine (r_iast rfl rfl rfl (by decide) (by decide)).trans ?_
  refine (r_aload_n rfl rfl rfl).trans ?_
  refine (r_getR (ci := 10) (sl := 0) s_E rfl rfl rfl rfl (by decide) rfl rfl).trans ?_
  refine (r_iconst (v := 1) rfl rfl rfl).trans ?_
  refine (r_iald rfl rfl rfl (by decide) (by decide)).trans ?_
  refine (r_bipush (v := 8) rfl rfl rfl).trans ?_
  refine (r_iushr rfl rfl).trans ?_
  exact r_iret rfl rfl

theorem en_X10_loose {d : Nat} {E : pEv} {ro : Nat → Nat → Int32} {Q : Option Value → pH → Prop} (s_E : oE E) {x1 : Int32} : wX (d + 1) 223 [.ref 101, .int x1] (mkH E ro) Q = wX d 154 [.long x1.toInt64, .long 1, .long 200] (mkH E ro) (fun v h' => wG d 223 (9, [.ref 101, .int x1, .retAddr 0, .retAddr 0, .retAddr 0], pv v [], h') Q) := by
  refine (wX_in rfl (by decide)).trans ?_
  show wG d 223 (0, [.ref 101, .int x1, .retAddr 0, .retAddr 0, .retAddr 0], [], mkH E ro) Q = _
  refine (r_iload_n rfl rfl rfl).trans ?_
  refine (r_i2l rfl rfl).trans ?_
  refine (r_lconst (w := 1) rfl rfl rfl).trans ?_
  refine (r_ldc2_w (w := 200) rfl rfl rfl).trans ?_
  exact r_ins (m := 154) rfl rfl rfl rfl rfl rfl

theorem sg_X10_loose_9 {d : Nat} {E : pEv} {ro : Nat → Nat → Int32} {Q : Option Value → pH → Prop} (s_E : oE E) {x1 : Int32} {v2 : Value} {v3 : Value} {v4 : Value} {xs0 : Int32} : wG d 223 (9, [.ref 101, .int x1, v2, v3, v4], [.int xs0], mkH E ro) Q = (if xs0 = 0 then wX d 153 [.ref 101, .int 1] (mkH E ro) (fun v h' => wG d 223 (17, [.ref 101, .int x1, v2, v3, v4], pv v [], h') Q) else (if 9999 < ((ro 102 4) + x1) then wX d 153 [.ref 101, .int 3] (mkH E ro) (fun v h' => wG d 223 (37, [.ref 101, .int x1, v2, v3, v4], pv v [], h') Q) else wG d 223 (40, [.ref 101, .int x1, .int 0, v3, v4], [], mkH E ro) Q)) := by
  refine (r_if_ne rfl rfl rfl).trans ?_
  refine ite_congr rfl (fun h_0 => ?_) (fun h_0 => ?_)
  · refine (r_aload_n rfl rfl rfl).trans ?_
    refine (r_iconst (v := 1) rfl rfl rfl).trans ?_
    exact r_inv (m := 153) (c := 10) rfl rfl rfl rfl rfl rfl rfl rfl
  · refine (r_aload_n rfl rfl rfl).trans ?_
    refine (r_getR (ci := 10) (sl := 0) s_E rfl rfl rfl rfl (by decide) rfl rfl).trans ?_
    refine (r_iconst (v := 4) rfl rfl rfl).trans ?_
    refine (r_iald rfl rfl rfl (by decide) (by decide)).trans ?_
    refine (r_iload_n rfl rfl rfl).trans ?_
    refine (r_iadd rfl rfl).trans ?_
    refine (r_sipush (v := 9999) rfl rfl rfl).trans ?_
    refine (r_icmp_le rfl rfl rfl).trans ?_
    refine ite_congr rfl (fun h_1 => ?_) (fun h_1 => ?_)
    · refine (r_aload_n rfl rfl rfl).trans ?_
      refine (r_iconst (v := 3) rfl rfl rfl).trans ?_
      exact r_inv (m := 153) (c := 10) rfl rfl rfl rfl rfl rfl rfl rfl
    · refine (r_iconst (v := 0) rfl rfl rfl).trans ?_
      refine (r_istore_n rfl rfl rfl rfl).trans ?_
      exact rfl

theorem sg_X10_loose_17 {d : Nat} {E : pEv} {ro : Nat → Nat → Int32} {Q : Option Value → pH → Prop} (s_E : oE E) {x1 : Int32} {v2 : Value} {v3 : Value} {v4 : Value} {xs0 : Int32} : wG d 223 (17, [.ref 101, .int x1, v2, v3, v4], [.int xs0], mkH E ro) Q = Q (some (.int xs0)) (mkH E ro) := by
  exact r_iret rfl rfl

theorem sg_X10_loose_37 {d : Nat} {E : pEv} {ro : Nat → Nat → Int32} {Q : Option Value → pH → Prop} (s_E : oE E) {x1 : Int32} {v2 : Value} {v3 : Value} {v4 : Value} {xs0 : Int32} : wG d 223 (37, [.ref 101, .int x1, v2, v3, v4], [.int xs0], mkH E ro) Q = Q (some (.int xs0)) (mkH E ro) := by
  exact r_iret rfl rfl

theorem sg_X10_loose_40 {d : Nat} {E : pEv} {ro : Nat → Nat → Int32} {Q : Option Value → pH → Prop} (s_E : oE E) {x1 : Int32} {x2 : Int32} {v3 : Value} {v4 : Value} : wG d 223 (40, [.ref 101, .int x1, .int x2, v3, v4], [], mkH E ro) Q = (if x2 < x1 then (if 1 < (ro 102 0) then wX d 222 [.ref 101] (mkH E ro) (fun v h' => wG d 223 (59, [.ref 101, .int x1, .int x2, v3, v4], pv v [], h') Q) else wX d 220 [.ref 101] (mkH E ro) (fun v h' => wG d 223 (117, [.ref 101, .int x1, .int x2, v3, v4], pv v [], h') Q)) else Q (some (.int (ro 102 3))) (mkH E ro)) := by
  refine (r_iload_n rfl rfl rfl).trans ?_
  refine (r_iload_n rfl rfl rfl).trans ?_
  refine (r_icmp_ge rfl rfl rfl).trans ?_
  refine ite_congr rfl (fun h_0 => ?_) (fun h_0 => ?_)
  · refine (r_aload_n rfl rfl rfl).trans ?_
    refine (r_getR (ci := 10) (sl := 0) s_E rfl rfl rfl rfl (by decide) rfl rfl).trans ?_
    refine (r_iconst (v := 0) rfl rfl rfl).trans ?_
    refine (r_iald rfl rfl rfl (by decide) (by decide)).trans ?_
    refine (r_iconst (v := 1) rfl rfl rfl).trans ?_
    refine (r_icmp_le rfl rfl rfl).trans ?_
    refine ite_congr rfl (fun h_1 => ?_) (fun h_1 => ?_)
    · refine (r_aload_n rfl rfl rfl).trans ?_
      exact r_inv (m := 222) (c := 10) rfl rfl rfl rfl rfl rfl rfl rfl
    · refine (r_aload_n rfl rfl rfl).trans ?_
      exact r_inv (m := 220) (c := 10) rfl rfl rfl rfl rfl rfl rfl rfl
  · refine (r_aload_n rfl rfl rfl).trans ?_
    refine (r_getR (ci := 10) (sl := 0) s_E rfl rfl rfl rfl (by decide) rfl rfl).trans ?_
    refine (r_iconst (v := 3) rfl rfl rfl).trans ?_
    refine (r_iald rfl rfl rfl (by decide) (by decide)).trans ?_
    exact r_iret rfl rfl

theorem sg_X10_loose_59 {d : Nat} {E : pEv} {ro : Nat → Nat → Int32} {Q : Option Value → pH → Prop} (s_E : oE E) {x1 : Int32} {x2 : Int32} {v3 : Value} {v4 : Value} {xs0 : Int32} (b0 : (¬ ((ro 102 0) - 1) = 0)) (b1 : (¬ (80 + (xs0 - xs0 / ((ro 102 0) - 1) * ((ro 102 0) - 1))) < 0 ∧ (80 + (xs0 - xs0 / ((ro 102 0) - 1) * ((ro 102 0) - 1))).toNatClampNeg < 264)) (b2 : (¬ ((80 + (xs0 - xs0 / ((ro 102 0) - 1) * ((ro 102 0) - 1))) + 1) < 0 ∧ ((80 + (xs0 - xs0 / ((ro 102 0) - 1) * ((ro 102 0) - 1))) + 1).toNatClampNeg < 264)) : wG d 223 (59, [.ref 101, .int x1, .int x2, v3, v4], [.int xs0], mkH E ro) Q = wX d 220 [.ref 101] (mkH E (uI (uI ro 102 (80 + (xs0 - xs0 / ((ro 102 0) - 1) * ((ro 102 0) - 1))).toNatClampNeg (ro 102 ((80 + (xs0 - xs0 / ((ro 102 0) - 1) * ((ro 102 0) - 1))) + 1).toNatClampNeg)) 102 ((80 + (xs0 - xs0 / ((ro 102 0) - 1) * ((ro 102 0) - 1))) + 1).toNatClampNeg (ro 102 (80 + (xs0 - xs0 / ((ro 102 0) - 1) * ((ro 102 0) - 1))).toNatClampNeg))) (fun v h' => wG d 223 (117, [.ref 101, .int x1, .int x2, .int (xs0 - xs0 / ((ro 102 0) - 1) * ((ro 102 0) - 1)), .int (ro 102 (80 + (xs0 - xs0 / ((ro 102 0) - 1) * ((ro 102 0) - 1))).toNatClampNeg)], pv v [], h') Q) := by
  refine (r_aload_n rfl rfl rfl).trans ?_
  refine (r_getR (ci := 10) (sl := 0) s_E rfl rfl rfl rfl (by decide) rfl rfl).trans ?_
  refine (r_iconst (v := 0) rfl rfl rfl).trans ?_
  refine (r_iald rfl rfl rfl (by decide) (by decide)).trans ?_
  refine (r_iconst (v := 1) rfl rfl rfl).trans ?_
  refine (r_isub rfl rfl).trans ?_
  refine (r_irem rfl rfl b0).trans ?_
  refine (r_istore_n rfl rfl rfl rfl).trans ?_
  refine (r_aload_n rfl rfl rfl).trans ?_
  refine (r_getR (ci := 10) (sl := 0) s_E rfl rfl rfl rfl (by decide) rfl rfl).trans ?_
  refine (r_bipush (v := 80) rfl rfl rfl).trans ?_
  refine (r_iload_n rfl rfl rfl).trans ?_
  refine (r_iadd rfl rfl).trans ?_
  refine (r_iald rfl rfl rfl (by decide) b1).trans ?_
  refine (r_istore rfl rfl rfl rfl).trans ?_
  refine (r_aload_n rfl rfl rfl).trans ?_
  refine (r_getR (ci := 10) (sl := 0) s_E rfl rfl rfl rfl (by decide) rfl rfl).trans ?_
  refine (r_bipush (v := 80) rfl rfl rfl).trans ?_
  refine (r_iload_n rfl rfl rfl).trans ?_
  refine (r_iadd rfl rfl).trans ?_
  refine (r_aload_n rfl rfl rfl).trans ?_
  refine (r_getR (ci := 10) (sl := 0) s_E rfl rfl rfl rfl (by decide) rfl rfl).trans ?_
  refine (r_bipush (v := 80) rfl rfl rfl).trans ?_
  refine (r_iload_n rfl rfl rfl).trans ?_
  refine (r_iadd rfl rfl).trans ?_
  refine (r_iconst (v := 1) rfl rfl rfl).trans ?_
  refine (r_iadd rfl rfl).trans ?_
  refine (r_iald rfl rfl rfl (by decide) b2).trans ?_
  refine (r_iast rfl rfl rfl (by decide) b1).trans ?_
  refine (r_aload_n rfl rfl rfl).trans ?_
  refine (r_getR (ci := 10) (sl := 0) s_E rfl rfl rfl rfl (by decide) rfl rfl).trans ?_
  refine (r_bipush (v := 80) rfl rfl rfl).trans ?_
  refine (r_iload_n rfl rfl rfl).trans ?_
  refine (r_iadd rfl rfl).trans ?_
  refine (r_iconst (v := 1) rfl rfl rfl).trans ?_
  refine (r_iadd rfl rfl).trans ?_
  refine (r_iload rfl rfl rfl).trans ?_
  refine (r_iast rfl rfl rfl (by decide) b2).trans ?_
  refine (r_aload_n rfl rfl rfl).trans ?_
  exact r_inv (m := 220) (c := 10) rfl rfl rfl rfl rfl rfl rfl rfl

theorem sg_X10_loose_117 {d : Nat} {E : pEv} {ro : Nat → Nat → Int32} {Q : Option Value → pH → Prop} (s_E : oE E) {x1 : Int32} {x2 : Int32} {v3 : Value} {v4 : Value} : wG d 223 (117, [.ref 101, .int x1, .int x2, v3, v4], [], mkH E ro) Q = wG d 223 (40, [.ref 101, .int x1, .int (x2 + 1), v3, v4], [], mkH E ro) Q := by
  refine (r_iinc (y := 1) rfl rfl rfl rfl rfl rfl).trans ?_
  refine (r_goto rfl rfl).trans ?_
  exact rfl

theorem en_X10_seed {d : Nat} {E : pEv} {ro : Nat → Nat → Int32} {Q : Option Value → pH → Prop} (s_E : oE E) {x1 : Int32} : wX (d + 1) 224 [.ref 101, .int x1] (mkH E ro) Q = Q (some (.int (ro 102 1))) (mkH E (uI ro 102 1 x1)) := by
  refine (wX_in rfl (by decide)).trans ?_
  show wG d 224 (0, [.ref 101, .int x1, .retAddr 0], [], mkH E ro) Q = _
  refine (r_aload_n rfl rfl rfl).trans ?_
  refine (r_getR (ci := 10) (sl := 0) s_E rfl rfl rfl rfl (by decide) rfl rfl).trans ?_
  refine (r_iconst (v := 1) rfl rfl rfl).trans ?_
  refine (r_iald rfl rfl rfl (by decide) (by decide)).trans ?_
  refine (r_istore_n rfl rfl rfl rfl).trans ?_
  refine (r_aload_n rfl rfl rfl).trans ?_
  refine (r_getR (ci := 10) (sl := 0) s_E rfl rfl rfl rfl (by decide) rfl rfl).trans ?_
  refine (r_iconst (v := 1) rfl rfl rfl).trans ?_
  refine (r_iload_n rfl rfl rfl).trans ?_
  refine (r_iast rfl rfl rfl (by decide) (by decide)).trans ?_
  refine (r_iload_n rfl rfl rfl).trans ?_
  exact r_iret rfl rfl

theorem en_X10_ran {d : Nat} {E : pEv} {ro : Nat → Nat → Int32} {Q : Option Value → pH → Prop} (s_E : oE E) {x1 : Int32} (b0 : ((ro 101 19) < 40) → (¬ (ro 101 19) < 0 ∧ (ro 101 19).toNatClampNeg < 40)) : wX (d + 1) 225 [.ref 101, .int x1] (mkH E ro) Q = (if (ro 101 19) < 40 then Q none (mkH E (uI (uI ro 111 (ro 101 19).toNatClampNeg x1) 101 19 (((uI ro 111 (ro 101 19).toNatClampNeg x1) 101 19) + 1))) else Q none (mkH E ro)) := by
  refine (wX_in rfl (by decide)).trans ?_
  show wG d 225 (0, [.ref 101, .int x1], [], mkH E ro) Q = _
  refine (r_aload_n rfl rfl rfl).trans ?_
  refine (r_getI (ci := 10) (sl := 19) rfl rfl rfl rfl (by decide)).trans ?_
  refine (r_bipush (v := 40) rfl rfl rfl).trans ?_
  refine (r_icmp_ge rfl rfl rfl).trans ?_
  refine ite_congr rfl (fun h_0 => ?_) (fun h_0 => ?_)
  · refine (r_aload_n rfl rfl rfl).trans ?_
    refine (r_getR (ci := 10) (sl := 18) s_E rfl rfl rfl rfl (by decide) rfl rfl).trans ?_
    refine (r_aload_n rfl rfl rfl).trans ?_
    refine (r_getI (ci := 10) (sl := 19) rfl rfl rfl rfl (by decide)).trans ?_
    refine (r_iload_n rfl rfl rfl).trans ?_
    refine (r_iast rfl rfl rfl (by decide) (b0 h_0)).trans ?_
    refine (r_aload_n rfl rfl rfl).trans ?_
    refine (r_dupR rfl rfl).trans ?_
    refine (r_getI (ci := 10) (sl := 19) rfl rfl rfl rfl (by decide)).trans ?_
    refine (r_iconst (v := 1) rfl rfl rfl).trans ?_
    refine (r_iadd rfl rfl).trans ?_
    refine (r_putI (ci := 10) (sl := 19) rfl rfl rfl rfl (by decide)).trans ?_
    exact r_vret rfl rfl
  · exact r_vret rfl rfl

theorem en_X10_own {d : Nat} {E : pEv} {ro : Nat → Nat → Int32} {Q : Option Value → pH → Prop} (s_E : oE E) : wX (d + 1) 226 [.ref 101] (mkH E ro) Q = wX d 157 [.ref 101, .int (ro 101 20), .int 0] (mkH E ro) (fun v h' => wG d 226 (9, [.ref 101], pv v [], h') Q) := by
  refine (wX_in rfl (by decide)).trans ?_
  show wG d 226 (0, [.ref 101], [], mkH E ro) Q = _
  refine (r_aload_n rfl rfl rfl).trans ?_
  refine (r_aload_n rfl rfl rfl).trans ?_
  refine (r_getI (ci := 10) (sl := 20) rfl rfl rfl rfl (by decide)).trans ?_
  refine (r_iconst (v := 0) rfl rfl rfl).trans ?_
  exact r_inv (m := 157) (c := 10) rfl rfl rfl rfl rfl rfl rfl rfl

theorem sg_X10_own_9 {d : Nat} {E : pEv} {ro : Nat → Nat → Int32} {Q : Option Value → pH → Prop} (s_E : oE E) {xs0 : Int32} : wG d 226 (9, [.ref 101], [.int xs0], mkH E ro) Q = Q (some (.int xs0)) (mkH E ro) := by
  exact r_iret rfl rfl

theorem en_X10_opensBy {d : Nat} {E : pEv} {ro : Nat → Nat → Int32} {Q : Option Value → pH → Prop} (s_E : oE E) {x1 : Int32} {x2 : Int32} : wX (d + 1) 227 [.ref 101, .int x1, .int x2] (mkH E ro) Q = (if x1 = 0 then wX d 225 [.ref 101, .int 10] (mkH E ro) (fun v h' => wG d 227 (34, [.ref 101, .int x1, .int x2], pv v [], h') Q) else (if x1 = 2 then wX d 225 [.ref 101, .int 30] (mkH E ro) (fun v h' => wG d 227 (47, [.ref 101, .int x1, .int x2], pv v [], h') Q) else wX d 175 [.int x1] (mkH E ro) (fun v h' => wG d 227 (64, [.ref 101, .int x1, .int x2], pv v [.ref 101], h') Q))) := by
  refine (wX_in rfl (by decide)).trans ?_
  show wG d 227 (0, [.ref 101, .int x1, .int x2], [], mkH E ro) Q = _
  refine (r_iload_n rfl rfl rfl).trans ?_
  refine (r_lk rfl rfl).trans ?_
  refine (r_swc (y := 0) rfl).trans ?_
  refine ite_congr rfl (fun h_0 => ?_) (fun h_0 => ?_)
  · refine (r_aload_n rfl rfl rfl).trans ?_
    refine (r_bipush (v := 10) rfl rfl rfl).trans ?_
    exact r_inv (m := 225) (c := 10) rfl rfl rfl rfl rfl rfl rfl rfl
  · refine (r_swc (y := 2) rfl).trans ?_
    refine ite_congr rfl (fun h_1 => ?_) (fun h_1 => ?_)
    · refine (r_aload_n rfl rfl rfl).trans ?_
      refine (r_bipush (v := 30) rfl rfl rfl).trans ?_
      exact r_inv (m := 225) (c := 10) rfl rfl rfl rfl rfl rfl rfl rfl
    · refine r_swn.trans ?_
      refine (r_aload_n rfl rfl rfl).trans ?_
      refine (r_iload_n rfl rfl rfl).trans ?_
      exact r_ins (m := 175) rfl rfl rfl rfl rfl rfl

theorem sg_X10_opensBy_34 {d : Nat} {E : pEv} {ro : Nat → Nat → Int32} {Q : Option Value → pH → Prop} (s_E : oE E) {x1 : Int32} {x2 : Int32} : wG d 227 (34, [.ref 101, .int x1, .int x2], [], mkH E ro) Q = Q (some (.int (x2 + (ro 101 20)))) (mkH E ro) := by
  refine (r_iload_n rfl rfl rfl).trans ?_
  refine (r_aload_n rfl rfl rfl).trans ?_
  refine (r_getI (ci := 10) (sl := 20) rfl rfl rfl rfl (by decide)).trans ?_
  refine (r_iadd rfl rfl).trans ?_
  exact r_iret rfl rfl

theorem sg_X10_opensBy_47 {d : Nat} {E : pEv} {ro : Nat → Nat → Int32} {Q : Option Value → pH → Prop} (s_E : oE E) {x1 : Int32} {x2 : Int32} : wG d 227 (47, [.ref 101, .int x1, .int x2], [], mkH E ro) Q = wX d 175 [.int 2] (mkH E ro) (fun v h' => wG d 227 (52, [.ref 101, .int x1, .int x2], pv v [.ref 101], h') Q) := by
  refine (r_aload_n rfl rfl rfl).trans ?_
  refine (r_iconst (v := 2) rfl rfl rfl).trans ?_
  exact r_ins (m := 175) rfl rfl rfl rfl rfl rfl

theorem sg_X10_opensBy_52 {d : Nat} {E : pEv} {ro : Nat → Nat → Int32} {Q : Option Value → pH → Prop} (s_E : oE E) {x1 : Int32} {x2 : Int32} {xs1 : Int32} : wG d 227 (52, [.ref 101, .int x1, .int x2], [.int xs1, .ref 101], mkH E ro) Q = wX d 227 [.ref 101, .int xs1, .int x2] (mkH E ro) (fun v h' => wG d 227 (56, [.ref 101, .int x1, .int x2], pv v [], h') Q) := by
  refine (r_iload_n rfl rfl rfl).trans ?_
  exact r_inv (m := 227) (c := 10) rfl rfl rfl rfl rfl rfl rfl rfl

theorem sg_X10_opensBy_56 {d : Nat} {E : pEv} {ro : Nat → Nat → Int32} {Q : Option Value → pH → Prop} (s_E : oE E) {x1 : Int32} {x2 : Int32} {xs0 : Int32} : wG d 227 (56, [.ref 101, .int x1, .int x2], [.int xs0], mkH E ro) Q = Q (some (.int (xs0 * 3))) (mkH E ro) := by
  refine (r_iconst (v := 3) rfl rfl rfl).trans ?_
  refine (r_imul rfl rfl).trans ?_
  exact r_iret rfl rfl

theorem sg_X10_opensBy_64 {d : Nat} {E : pEv} {ro : Nat → Nat → Int32} {Q : Option Value → pH → Prop} (s_E : oE E) {x1 : Int32} {x2 : Int32} {xs1 : Int32} : wG d 227 (64, [.ref 101, .int x1, .int x2], [.int xs1, .ref 101], mkH E ro) Q = wX d 227 [.ref 101, .int xs1, .int x2] (mkH E ro) (fun v h' => wG d 227 (68, [.ref 101, .int x1, .int x2], pv v [], h') Q) := by
  refine (r_iload_n rfl rfl rfl).trans ?_
  exact r_inv (m := 227) (c := 10) rfl rfl rfl rfl rfl rfl rfl rfl

theorem sg_X10_opensBy_68 {d : Nat} {E : pEv} {ro : Nat → Nat → Int32} {Q : Option Value → pH → Prop} (s_E : oE E) {x1 : Int32} {x2 : Int32} {xs0 : Int32} : wG d 227 (68, [.ref 101, .int x1, .int x2], [.int xs0], mkH E ro) Q = Q (some (.int xs0)) (mkH E ro) := by
  exact r_iret rfl rfl

theorem en_X10_playsBy {d : Nat} {E : pEv} {ro : Nat → Nat → Int32} {Q : Option Value → pH → Prop} (s_E : oE E) {x1 : Int32} {x2 : Int32} : wX (d + 1) 228 [.ref 101, .int x1, .int x2] (mkH E ro) Q = (if x1 = 0 then wX d 225 [.ref 101, .int 11] (mkH E ro) (fun v h' => wG d 228 (42, [.ref 101, .int x1, .int x2, .retAddr 0], pv v [], h') Q) else (if x1 = 1 then wX d 225 [.ref 101, .int 20] (mkH E ro) (fun v h' => wG d 228 (60, [.ref 101, .int x1, .int x2, .retAddr 0], pv v [], h') Q) else (if x1 = 2 then wX d 175 [.int x1] (mkH E ro) (fun v h' => wG d 228 (105, [.ref 101, .int x1, .int x2, .retAddr 0], pv v [.ref 101], h') Q) else (if x1 = 3 then wX d 175 [.int x1] (mkH E ro) (fun v h' => wG d 228 (105, [.ref 101, .int x1, .int x2, .retAddr 0], pv v [.ref 101], h') Q) else (if x1 = 4 then wX d 225 [.ref 101, .int 50] (mkH E ro) (fun v h' => wG d 228 (88, [.ref 101, .int x1, .int x2, .retAddr 0], pv v [], h') Q) else wX d 175 [.int x1] (mkH E ro) (fun v h' => wG d 228 (105, [.ref 101, .int x1, .int x2, .retAddr 0], pv v [.ref 101], h') Q)))))) := by
  refine (wX_in rfl (by decide)).trans ?_
  show wG d 228 (0, [.ref 101, .int x1, .int x2, .retAddr 0], [], mkH E ro) Q = _
  refine (r_iload_n rfl rfl rfl).trans ?_
  refine (r_sw (i := (99, 0, 4)) rfl rfl).trans ?_
  refine (r_swc (y := 0) rfl).trans ?_
  refine ite_congr rfl (fun h_0 => ?_) (fun h_0 => ?_)
  · refine (r_aload_n rfl rfl rfl).trans ?_
    refine (r_bipush (v := 11) rfl rfl rfl).trans ?_
    exact r_inv (m := 225) (c := 10) rfl rfl rfl rfl rfl rfl rfl rfl
  · refine (r_swc (y := 1) rfl).trans ?_
    refine ite_congr rfl (fun h_1 => ?_) (fun h_1 => ?_)
    · refine (r_aload_n rfl rfl rfl).trans ?_
      refine (r_bipush (v := 20) rfl rfl rfl).trans ?_
      exact r_inv (m := 225) (c := 10) rfl rfl rfl rfl rfl rfl rfl rfl
    · refine (r_swc (y := 2) rfl).trans ?_
      refine ite_congr rfl (fun h_2 => ?_) (fun h_2 => ?_)
      · refine (r_aload_n rfl rfl rfl).trans ?_
        refine (r_iload_n rfl rfl rfl).trans ?_
        exact r_ins (m := 175) rfl rfl rfl rfl rfl rfl
      · refine (r_swc (y := 3) rfl).trans ?_
        refine ite_congr rfl (fun h_3 => ?_) (fun h_3 => ?_)
        · refine (r_aload_n rfl rfl rfl).trans ?_
          refine (r_iload_n rfl rfl rfl).trans ?_
          exact r_ins (m := 175) rfl rfl rfl rfl rfl rfl
        · refine (r_swc (y := 4) rfl).trans ?_
          refine ite_congr rfl (fun h_4 => ?_) (fun h_4 => ?_)
          · refine (r_aload_n rfl rfl rfl).trans ?_
            refine (r_bipush (v := 50) rfl rfl rfl).trans ?_
            exact r_inv (m := 225) (c := 10) rfl rfl rfl rfl rfl rfl rfl rfl
          · refine r_swn.trans ?_
            refine (r_aload_n rfl rfl rfl).trans ?_
            refine (r_iload_n rfl rfl rfl).trans ?_
            exact r_ins (m := 175) rfl rfl rfl rfl rfl rfl

theorem sg_X10_playsBy_42 {d : Nat} {E : pEv} {ro : Nat → Nat → Int32} {Q : Option Value → pH → Prop} (s_E : oE E) {x1 : Int32} {x2 : Int32} {v3 : Value} : wG d 228 (42, [.ref 101, .int x1, .int x2, v3], [], mkH E ro) Q = wX d 226 [.ref 101] (mkH E ro) (fun v h' => wG d 228 (47, [.ref 101, .int x1, .int x2, v3], pv v [.ref 101], h') Q) := by
  refine (r_aload_n rfl rfl rfl).trans ?_
  refine (r_aload_n rfl rfl rfl).trans ?_
  exact r_inv (m := 226) (c := 10) rfl rfl rfl rfl rfl rfl rfl rfl

theorem sg_X10_playsBy_47 {d : Nat} {E : pEv} {ro : Nat → Nat → Int32} {Q : Option Value → pH → Prop} (s_E : oE E) {x1 : Int32} {x2 : Int32} {v3 : Value} {xs1 : Int32} : wG d 228 (47, [.ref 101, .int x1, .int x2, v3], [.int xs1, .ref 101], mkH E ro) Q = wX d 227 [.ref 101, .int xs1, .int x2] (mkH E ro) (fun v h' => wG d 228 (51, [.ref 101, .int x1, .int x2, v3], pv v [], h') Q) := by
  refine (r_iload_n rfl rfl rfl).trans ?_
  exact r_inv (m := 227) (c := 10) rfl rfl rfl rfl rfl rfl rfl rfl

theorem sg_X10_playsBy_51 {d : Nat} {E : pEv} {ro : Nat → Nat → Int32} {Q : Option Value → pH → Prop} (s_E : oE E) {x1 : Int32} {x2 : Int32} {v3 : Value} {xs0 : Int32} : wG d 228 (51, [.ref 101, .int x1, .int x2, v3], [.int xs0], mkH E ro) Q = Q (some (.int (xs0 * 2))) (mkH E ro) := by
  refine (r_iconst (v := 2) rfl rfl rfl).trans ?_
  refine (r_imul rfl rfl).trans ?_
  exact r_iret rfl rfl

theorem sg_X10_playsBy_60 {d : Nat} {E : pEv} {ro : Nat → Nat → Int32} {Q : Option Value → pH → Prop} (s_E : oE E) {x1 : Int32} {x2 : Int32} {v3 : Value} : wG d 228 (60, [.ref 101, .int x1, .int x2, v3], [], mkH E ro) Q = wX d 175 [.int 1] (mkH E ro) (fun v h' => wG d 228 (65, [.ref 101, .int x1, .int x2, v3], pv v [.ref 101], h') Q) := by
  refine (r_aload_n rfl rfl rfl).trans ?_
  refine (r_iconst (v := 1) rfl rfl rfl).trans ?_
  exact r_ins (m := 175) rfl rfl rfl rfl rfl rfl

theorem sg_X10_playsBy_65 {d : Nat} {E : pEv} {ro : Nat → Nat → Int32} {Q : Option Value → pH → Prop} (s_E : oE E) {x1 : Int32} {x2 : Int32} {v3 : Value} {xs1 : Int32} : wG d 228 (65, [.ref 101, .int x1, .int x2, v3], [.int xs1, .ref 101], mkH E ro) Q = wX d 228 [.ref 101, .int xs1, .int x2] (mkH E ro) (fun v h' => wG d 228 (69, [.ref 101, .int x1, .int x2, v3], pv v [], h') Q) := by
  refine (r_iload_n rfl rfl rfl).trans ?_
  exact r_inv (m := 228) (c := 10) rfl rfl rfl rfl rfl rfl rfl rfl

theorem sg_X10_playsBy_69 {d : Nat} {E : pEv} {ro : Nat → Nat → Int32} {Q : Option Value → pH → Prop} (s_E : oE E) {x1 : Int32} {x2 : Int32} {v3 : Value} {xs0 : Int32} : wG d 228 (69, [.ref 101, .int x1, .int x2, v3], [.int xs0], mkH E ro) Q = wX d 226 [.ref 101] (mkH E ro) (fun v h' => wG d 228 (76, [.ref 101, .int x1, .int x2, .int xs0], pv v [.ref 101, .int xs0], h') Q) := by
  refine (r_istore_n rfl rfl rfl rfl).trans ?_
  refine (r_iload_n rfl rfl rfl).trans ?_
  refine (r_aload_n rfl rfl rfl).trans ?_
  refine (r_aload_n rfl rfl rfl).trans ?_
  exact r_inv (m := 226) (c := 10) rfl rfl rfl rfl rfl rfl rfl rfl

theorem sg_X10_playsBy_76 {d : Nat} {E : pEv} {ro : Nat → Nat → Int32} {Q : Option Value → pH → Prop} (s_E : oE E) {x1 : Int32} {x2 : Int32} {x3 : Int32} {xs0 : Int32} {xs2 : Int32} : wG d 228 (76, [.ref 101, .int x1, .int x2, .int x3], [.int xs2, .ref 101, .int xs0], mkH E ro) Q = wX d 229 [.ref 101, .int xs2, .int 1] (mkH E ro) (fun v h' => wG d 228 (80, [.ref 101, .int x1, .int x2, .int x3], pv v [.int xs0], h') Q) := by
  refine (r_iconst (v := 1) rfl rfl rfl).trans ?_
  exact r_inv (m := 229) (c := 10) rfl rfl rfl rfl rfl rfl rfl rfl

theorem sg_X10_playsBy_80 {d : Nat} {E : pEv} {ro : Nat → Nat → Int32} {Q : Option Value → pH → Prop} (s_E : oE E) {x1 : Int32} {x2 : Int32} {x3 : Int32} {xs0 : Int32} {xs1 : Int32} : wG d 228 (80, [.ref 101, .int x1, .int x2, .int x3], [.int xs1, .int xs0], mkH E ro) Q = Q (some (.int (xs0 - xs1))) (mkH E ro) := by
  refine (r_isub rfl rfl).trans ?_
  exact r_iret rfl rfl

theorem sg_X10_playsBy_88 {d : Nat} {E : pEv} {ro : Nat → Nat → Int32} {Q : Option Value → pH → Prop} (s_E : oE E) {x1 : Int32} {x2 : Int32} {v3 : Value} : wG d 228 (88, [.ref 101, .int x1, .int x2, v3], [], mkH E ro) Q = wX d 175 [.int 4] (mkH E ro) (fun v h' => wG d 228 (93, [.ref 101, .int x1, .int x2, v3], pv v [.ref 101], h') Q) := by
  refine (r_aload_n rfl rfl rfl).trans ?_
  refine (r_iconst (v := 4) rfl rfl rfl).trans ?_
  exact r_ins (m := 175) rfl rfl rfl rfl rfl rfl

theorem sg_X10_playsBy_93 {d : Nat} {E : pEv} {ro : Nat → Nat → Int32} {Q : Option Value → pH → Prop} (s_E : oE E) {x1 : Int32} {x2 : Int32} {v3 : Value} {xs1 : Int32} : wG d 228 (93, [.ref 101, .int x1, .int x2, v3], [.int xs1, .ref 101], mkH E ro) Q = wX d 228 [.ref 101, .int xs1, .int (x2 + 1)] (mkH E ro) (fun v h' => wG d 228 (99, [.ref 101, .int x1, .int x2, v3], pv v [], h') Q) := by
  refine (r_iload_n rfl rfl rfl).trans ?_
  refine (r_iconst (v := 1) rfl rfl rfl).trans ?_
  refine (r_iadd rfl rfl).trans ?_
  exact r_inv (m := 228) (c := 10) rfl rfl rfl rfl rfl rfl rfl rfl

theorem sg_X10_playsBy_99 {d : Nat} {E : pEv} {ro : Nat → Nat → Int32} {Q : Option Value → pH → Prop} (s_E : oE E) {x1 : Int32} {x2 : Int32} {v3 : Value} {xs0 : Int32} : wG d 228 (99, [.ref 101, .int x1, .int x2, v3], [.int xs0], mkH E ro) Q = Q (some (.int xs0)) (mkH E ro) := by
  exact r_iret rfl rfl

theorem sg_X10_playsBy_105 {d : Nat} {E : pEv} {ro : Nat → Nat → Int32} {Q : Option Value → pH → Prop} (s_E : oE E) {x1 : Int32} {x2 : Int32} {v3 : Value} {xs1 : Int32} : wG d 228 (105, [.ref 101, .int x1, .int x2, v3], [.int xs1, .ref 101], mkH E ro) Q = wX d 228 [.ref 101, .int xs1, .int x2] (mkH E ro) (fun v h' => wG d 228 (109, [.ref 101, .int x1, .int x2, v3], pv v [], h') Q) := by
  refine (r_iload_n rfl rfl rfl).trans ?_
  exact r_inv (m := 228) (c := 10) rfl rfl rfl rfl rfl rfl rfl rfl

theorem sg_X10_playsBy_109 {d : Nat} {E : pEv} {ro : Nat → Nat → Int32} {Q : Option Value → pH → Prop} (s_E : oE E) {x1 : Int32} {x2 : Int32} {v3 : Value} {xs0 : Int32} : wG d 228 (109, [.ref 101, .int x1, .int x2, v3], [.int xs0], mkH E ro) Q = Q (some (.int xs0)) (mkH E ro) := by
  exact r_iret rfl rfl

theorem en_X10_closesBy {d : Nat} {E : pEv} {ro : Nat → Nat → Int32} {Q : Option Value → pH → Prop} (s_E : oE E) {x1 : Int32} {x2 : Int32} : wX (d + 1) 229 [.ref 101, .int x1, .int x2] (mkH E ro) Q = (if x1 = 0 then wX d 225 [.ref 101, .int 12] (mkH E ro) (fun v h' => wG d 229 (42, [.ref 101, .int x1, .int x2], pv v [], h') Q) else (if x1 = 3 then wX d 225 [.ref 101, .int 40] (mkH E ro) (fun v h' => wG d 229 (60, [.ref 101, .int x1, .int x2], pv v [], h') Q) else (if x1 = 6 then wX d 225 [.ref 101, .int 70] (mkH E ro) (fun v h' => wG d 229 (77, [.ref 101, .int x1, .int x2], pv v [], h') Q) else wX d 175 [.int x1] (mkH E ro) (fun v h' => wG d 229 (98, [.ref 101, .int x1, .int x2], pv v [.ref 101], h') Q)))) := by
  refine (wX_in rfl (by decide)).trans ?_
  show wG d 229 (0, [.ref 101, .int x1, .int x2], [], mkH E ro) Q = _
  refine (r_iload_n rfl rfl rfl).trans ?_
  refine (r_lk rfl rfl).trans ?_
  refine (r_swc (y := 0) rfl).trans ?_
  refine ite_congr rfl (fun h_0 => ?_) (fun h_0 => ?_)
  · refine (r_aload_n rfl rfl rfl).trans ?_
    refine (r_bipush (v := 12) rfl rfl rfl).trans ?_
    exact r_inv (m := 225) (c := 10) rfl rfl rfl rfl rfl rfl rfl rfl
  · refine (r_swc (y := 3) rfl).trans ?_
    refine ite_congr rfl (fun h_1 => ?_) (fun h_1 => ?_)
    · refine (r_aload_n rfl rfl rfl).trans ?_
      refine (r_bipush (v := 40) rfl rfl rfl).trans ?_
      exact r_inv (m := 225) (c := 10) rfl rfl rfl rfl rfl rfl rfl rfl
    · refine (r_swc (y := 6) rfl).trans ?_
      refine ite_congr rfl (fun h_2 => ?_) (fun h_2 => ?_)
      · refine (r_aload_n rfl rfl rfl).trans ?_
        refine (r_bipush (v := 70) rfl rfl rfl).trans ?_
        exact r_inv (m := 225) (c := 10) rfl rfl rfl rfl rfl rfl rfl rfl
      · refine r_swn.trans ?_
        refine (r_aload_n rfl rfl rfl).trans ?_
        refine (r_iload_n rfl rfl rfl).trans ?_
        exact r_ins (m := 175) rfl rfl rfl rfl rfl rfl

theorem sg_X10_closesBy_42 {d : Nat} {E : pEv} {ro : Nat → Nat → Int32} {Q : Option Value → pH → Prop} (s_E : oE E) {x1 : Int32} {x2 : Int32} : wG d 229 (42, [.ref 101, .int x1, .int x2], [], mkH E ro) Q = wX d 157 [.ref 101, .int (ro 101 20), .int 1] (mkH E ro) (fun v h' => wG d 229 (52, [.ref 101, .int x1, .int x2], pv v [.int x2], h') Q) := by
  refine (r_iload_n rfl rfl rfl).trans ?_
  refine (r_aload_n rfl rfl rfl).trans ?_
  refine (r_aload_n rfl rfl rfl).trans ?_
  refine (r_getI (ci := 10) (sl := 20) rfl rfl rfl rfl (by decide)).trans ?_
  refine (r_iconst (v := 1) rfl rfl rfl).trans ?_
  exact r_inv (m := 157) (c := 10) rfl rfl rfl rfl rfl rfl rfl rfl

theorem sg_X10_closesBy_52 {d : Nat} {E : pEv} {ro : Nat → Nat → Int32} {Q : Option Value → pH → Prop} (s_E : oE E) {x1 : Int32} {x2 : Int32} {xs0 : Int32} {xs1 : Int32} : wG d 229 (52, [.ref 101, .int x1, .int x2], [.int xs1, .int xs0], mkH E ro) Q = Q (some (.int (xs0 - xs1))) (mkH E ro) := by
  refine (r_isub rfl rfl).trans ?_
  exact r_iret rfl rfl

theorem sg_X10_closesBy_60 {d : Nat} {E : pEv} {ro : Nat → Nat → Int32} {Q : Option Value → pH → Prop} (s_E : oE E) {x1 : Int32} {x2 : Int32} : wG d 229 (60, [.ref 101, .int x1, .int x2], [], mkH E ro) Q = wX d 175 [.int 3] (mkH E ro) (fun v h' => wG d 229 (65, [.ref 101, .int x1, .int x2], pv v [.ref 101], h') Q) := by
  refine (r_aload_n rfl rfl rfl).trans ?_
  refine (r_iconst (v := 3) rfl rfl rfl).trans ?_
  exact r_ins (m := 175) rfl rfl rfl rfl rfl rfl

theorem sg_X10_closesBy_65 {d : Nat} {E : pEv} {ro : Nat → Nat → Int32} {Q : Option Value → pH → Prop} (s_E : oE E) {x1 : Int32} {x2 : Int32} {xs1 : Int32} : wG d 229 (65, [.ref 101, .int x1, .int x2], [.int xs1, .ref 101], mkH E ro) Q = wX d 229 [.ref 101, .int xs1, .int x2] (mkH E ro) (fun v h' => wG d 229 (69, [.ref 101, .int x1, .int x2], pv v [], h') Q) := by
  refine (r_iload_n rfl rfl rfl).trans ?_
  exact r_inv (m := 229) (c := 10) rfl rfl rfl rfl rfl rfl rfl rfl

theorem sg_X10_closesBy_69 {d : Nat} {E : pEv} {ro : Nat → Nat → Int32} {Q : Option Value → pH → Prop} (s_E : oE E) {x1 : Int32} {x2 : Int32} {xs0 : Int32} : wG d 229 (69, [.ref 101, .int x1, .int x2], [.int xs0], mkH E ro) Q = Q (some (.int (-xs0))) (mkH E ro) := by
  refine (r_ineg rfl rfl).trans ?_
  exact r_iret rfl rfl

theorem sg_X10_closesBy_77 {d : Nat} {E : pEv} {ro : Nat → Nat → Int32} {Q : Option Value → pH → Prop} (s_E : oE E) {x1 : Int32} {x2 : Int32} : wG d 229 (77, [.ref 101, .int x1, .int x2], [], mkH E ro) Q = wX d 175 [.int 6] (mkH E ro) (fun v h' => wG d 229 (83, [.ref 101, .int x1, .int x2], pv v [.ref 101], h') Q) := by
  refine (r_aload_n rfl rfl rfl).trans ?_
  refine (r_bipush (v := 6) rfl rfl rfl).trans ?_
  exact r_ins (m := 175) rfl rfl rfl rfl rfl rfl

theorem sg_X10_closesBy_83 {d : Nat} {E : pEv} {ro : Nat → Nat → Int32} {Q : Option Value → pH → Prop} (s_E : oE E) {x1 : Int32} {x2 : Int32} {xs1 : Int32} : wG d 229 (83, [.ref 101, .int x1, .int x2], [.int xs1, .ref 101], mkH E ro) Q = wX d 229 [.ref 101, .int xs1, .int x2] (mkH E ro) (fun v h' => wG d 229 (87, [.ref 101, .int x1, .int x2], pv v [], h') Q) := by
  refine (r_iload_n rfl rfl rfl).trans ?_
  exact r_inv (m := 229) (c := 10) rfl rfl rfl rfl rfl rfl rfl rfl

theorem sg_X10_closesBy_87 {d : Nat} {E : pEv} {ro : Nat → Nat → Int32} {Q : Option Value → pH → Prop} (s_E : oE E) {x1 : Int32} {x2 : Int32} {xs0 : Int32} : wG d 229 (87, [.ref 101, .int x1, .int x2], [.int xs0], mkH E ro) Q = Q (some (.int (xs0 ^^^ (ro 101 20)))) (mkH E ro) := by
  refine (r_aload_n rfl rfl rfl).trans ?_
  refine (r_getI (ci := 10) (sl := 20) rfl rfl rfl rfl (by decide)).trans ?_
  refine (r_ixor rfl rfl).trans ?_
  exact r_iret rfl rfl

theorem sg_X10_closesBy_98 {d : Nat} {E : pEv} {ro : Nat → Nat → Int32} {Q : Option Value → pH → Prop} (s_E : oE E) {x1 : Int32} {x2 : Int32} {xs1 : Int32} : wG d 229 (98, [.ref 101, .int x1, .int x2], [.int xs1, .ref 101], mkH E ro) Q = wX d 229 [.ref 101, .int xs1, .int x2] (mkH E ro) (fun v h' => wG d 229 (102, [.ref 101, .int x1, .int x2], pv v [], h') Q) := by
  refine (r_iload_n rfl rfl rfl).trans ?_
  exact r_inv (m := 229) (c := 10) rfl rfl rfl rfl rfl rfl rfl rfl

theorem sg_X10_closesBy_102 {d : Nat} {E : pEv} {ro : Nat → Nat → Int32} {Q : Option Value → pH → Prop} (s_E : oE E) {x1 : Int32} {x2 : Int32} {xs0 : Int32} : wG d 229 (102, [.ref 101, .int x1, .int x2], [.int xs0], mkH E ro) Q = Q (some (.int xs0)) (mkH E ro) := by
  exact r_iret rfl rfl

theorem en_X10_tellsBy {d : Nat} {E : pEv} {ro : Nat → Nat → Int32} {Q : Option Value → pH → Prop} (s_E : oE E) {x1 : Int32} {x2 : Int32} : wX (d + 1) 230 [.ref 101, .int x1, .int x2] (mkH E ro) Q = (if x1 = 0 then wX d 225 [.ref 101, .int 13] (mkH E ro) (fun v h' => wG d 230 (42, [.ref 101, .int x1, .int x2, .retAddr 0], pv v [], h') Q) else (if x1 = 5 then wX d 225 [.ref 101, .int 60] (mkH E ro) (fun v h' => wG d 230 (70, [.ref 101, .int x1, .int x2, .retAddr 0], pv v [], h') Q) else (if x1 = 6 then wX d 225 [.ref 101, .int 71] (mkH E ro) (fun v h' => wG d 230 (98, [.ref 101, .int x1, .int x2, .retAddr 0], pv v [], h') Q) else wX d 175 [.int x1] (mkH E ro) (fun v h' => wG d 230 (126, [.ref 101, .int x1, .int x2, .retAddr 0], pv v [.ref 101], h') Q)))) := by
  refine (wX_in rfl (by decide)).trans ?_
  show wG d 230 (0, [.ref 101, .int x1, .int x2, .retAddr 0], [], mkH E ro) Q = _
  refine (r_iload_n rfl rfl rfl).trans ?_
  refine (r_lk rfl rfl).trans ?_
  refine (r_swc (y := 0) rfl).trans ?_
  refine ite_congr rfl (fun h_0 => ?_) (fun h_0 => ?_)
  · refine (r_aload_n rfl rfl rfl).trans ?_
    refine (r_bipush (v := 13) rfl rfl rfl).trans ?_
    exact r_inv (m := 225) (c := 10) rfl rfl rfl rfl rfl rfl rfl rfl
  · refine (r_swc (y := 5) rfl).trans ?_
    refine ite_congr rfl (fun h_1 => ?_) (fun h_1 => ?_)
    · refine (r_aload_n rfl rfl rfl).trans ?_
      refine (r_bipush (v := 60) rfl rfl rfl).trans ?_
      exact r_inv (m := 225) (c := 10) rfl rfl rfl rfl rfl rfl rfl rfl
    · refine (r_swc (y := 6) rfl).trans ?_
      refine ite_congr rfl (fun h_2 => ?_) (fun h_2 => ?_)
      · refine (r_aload_n rfl rfl rfl).trans ?_
        refine (r_bipush (v := 71) rfl rfl rfl).trans ?_
        exact r_inv (m := 225) (c := 10) rfl rfl rfl rfl rfl rfl rfl rfl
      · refine r_swn.trans ?_
        refine (r_aload_n rfl rfl rfl).trans ?_
        refine (r_iload_n rfl rfl rfl).trans ?_
        exact r_ins (m := 175) rfl rfl rfl rfl rfl rfl

theorem sg_X10_tellsBy_42 {d : Nat} {E : pEv} {ro : Nat → Nat → Int32} {Q : Option Value → pH → Prop} (s_E : oE E) {x1 : Int32} {x2 : Int32} {v3 : Value} : wG d 230 (42, [.ref 101, .int x1, .int x2, v3], [], mkH E ro) Q = wX d 226 [.ref 101] (mkH E ro) (fun v h' => wG d 230 (47, [.ref 101, .int x1, .int x2, v3], pv v [.ref 101], h') Q) := by
  refine (r_aload_n rfl rfl rfl).trans ?_
  refine (r_aload_n rfl rfl rfl).trans ?_
  exact r_inv (m := 226) (c := 10) rfl rfl rfl rfl rfl rfl rfl rfl

theorem sg_X10_tellsBy_47 {d : Nat} {E : pEv} {ro : Nat → Nat → Int32} {Q : Option Value → pH → Prop} (s_E : oE E) {x1 : Int32} {x2 : Int32} {v3 : Value} {xs1 : Int32} : wG d 230 (47, [.ref 101, .int x1, .int x2, v3], [.int xs1, .ref 101], mkH E ro) Q = wX d 228 [.ref 101, .int xs1, .int x2] (mkH E ro) (fun v h' => wG d 230 (51, [.ref 101, .int x1, .int x2, v3], pv v [], h') Q) := by
  refine (r_iload_n rfl rfl rfl).trans ?_
  exact r_inv (m := 228) (c := 10) rfl rfl rfl rfl rfl rfl rfl rfl

theorem sg_X10_tellsBy_51 {d : Nat} {E : pEv} {ro : Nat → Nat → Int32} {Q : Option Value → pH → Prop} (s_E : oE E) {x1 : Int32} {x2 : Int32} {v3 : Value} {xs0 : Int32} : wG d 230 (51, [.ref 101, .int x1, .int x2, v3], [.int xs0], mkH E ro) Q = wX d 226 [.ref 101] (mkH E ro) (fun v h' => wG d 230 (58, [.ref 101, .int x1, .int x2, .int xs0], pv v [.ref 101, .int xs0], h') Q) := by
  refine (r_istore_n rfl rfl rfl rfl).trans ?_
  refine (r_iload_n rfl rfl rfl).trans ?_
  refine (r_aload_n rfl rfl rfl).trans ?_
  refine (r_aload_n rfl rfl rfl).trans ?_
  exact r_inv (m := 226) (c := 10) rfl rfl rfl rfl rfl rfl rfl rfl

theorem sg_X10_tellsBy_58 {d : Nat} {E : pEv} {ro : Nat → Nat → Int32} {Q : Option Value → pH → Prop} (s_E : oE E) {x1 : Int32} {x2 : Int32} {x3 : Int32} {xs0 : Int32} {xs2 : Int32} : wG d 230 (58, [.ref 101, .int x1, .int x2, .int x3], [.int xs2, .ref 101, .int xs0], mkH E ro) Q = wX d 229 [.ref 101, .int xs2, .int x2] (mkH E ro) (fun v h' => wG d 230 (62, [.ref 101, .int x1, .int x2, .int x3], pv v [.int xs0], h') Q) := by
  refine (r_iload_n rfl rfl rfl).trans ?_
  exact r_inv (m := 229) (c := 10) rfl rfl rfl rfl rfl rfl rfl rfl

theorem sg_X10_tellsBy_62 {d : Nat} {E : pEv} {ro : Nat → Nat → Int32} {Q : Option Value → pH → Prop} (s_E : oE E) {x1 : Int32} {x2 : Int32} {x3 : Int32} {xs0 : Int32} {xs1 : Int32} : wG d 230 (62, [.ref 101, .int x1, .int x2, .int x3], [.int xs1, .int xs0], mkH E ro) Q = Q (some (.int (xs0 ^^^ xs1))) (mkH E ro) := by
  refine (r_ixor rfl rfl).trans ?_
  exact r_iret rfl rfl

theorem sg_X10_tellsBy_70 {d : Nat} {E : pEv} {ro : Nat → Nat → Int32} {Q : Option Value → pH → Prop} (s_E : oE E) {x1 : Int32} {x2 : Int32} {v3 : Value} : wG d 230 (70, [.ref 101, .int x1, .int x2, v3], [], mkH E ro) Q = wX d 175 [.int 5] (mkH E ro) (fun v h' => wG d 230 (75, [.ref 101, .int x1, .int x2, v3], pv v [.ref 101], h') Q) := by
  refine (r_aload_n rfl rfl rfl).trans ?_
  refine (r_iconst (v := 5) rfl rfl rfl).trans ?_
  exact r_ins (m := 175) rfl rfl rfl rfl rfl rfl

theorem sg_X10_tellsBy_75 {d : Nat} {E : pEv} {ro : Nat → Nat → Int32} {Q : Option Value → pH → Prop} (s_E : oE E) {x1 : Int32} {x2 : Int32} {v3 : Value} {xs1 : Int32} : wG d 230 (75, [.ref 101, .int x1, .int x2, v3], [.int xs1, .ref 101], mkH E ro) Q = wX d 230 [.ref 101, .int xs1, .int x2] (mkH E ro) (fun v h' => wG d 230 (79, [.ref 101, .int x1, .int x2, v3], pv v [], h') Q) := by
  refine (r_iload_n rfl rfl rfl).trans ?_
  exact r_inv (m := 230) (c := 10) rfl rfl rfl rfl rfl rfl rfl rfl

theorem sg_X10_tellsBy_79 {d : Nat} {E : pEv} {ro : Nat → Nat → Int32} {Q : Option Value → pH → Prop} (s_E : oE E) {x1 : Int32} {x2 : Int32} {v3 : Value} {xs0 : Int32} : wG d 230 (79, [.ref 101, .int x1, .int x2, v3], [.int xs0], mkH E ro) Q = wX d 226 [.ref 101] (mkH E ro) (fun v h' => wG d 230 (86, [.ref 101, .int x1, .int x2, .int xs0], pv v [.ref 101, .int xs0], h') Q) := by
  refine (r_istore_n rfl rfl rfl rfl).trans ?_
  refine (r_iload_n rfl rfl rfl).trans ?_
  refine (r_aload_n rfl rfl rfl).trans ?_
  refine (r_aload_n rfl rfl rfl).trans ?_
  exact r_inv (m := 226) (c := 10) rfl rfl rfl rfl rfl rfl rfl rfl

theorem sg_X10_tellsBy_86 {d : Nat} {E : pEv} {ro : Nat → Nat → Int32} {Q : Option Value → pH → Prop} (s_E : oE E) {x1 : Int32} {x2 : Int32} {x3 : Int32} {xs0 : Int32} {xs2 : Int32} : wG d 230 (86, [.ref 101, .int x1, .int x2, .int x3], [.int xs2, .ref 101, .int xs0], mkH E ro) Q = wX d 227 [.ref 101, .int xs2, .int 2] (mkH E ro) (fun v h' => wG d 230 (90, [.ref 101, .int x1, .int x2, .int x3], pv v [.int xs0], h') Q) := by
  refine (r_iconst (v := 2) rfl rfl rfl).trans ?_
  exact r_inv (m := 227) (c := 10) rfl rfl rfl rfl rfl rfl rfl rfl

theorem sg_X10_tellsBy_90 {d : Nat} {E : pEv} {ro : Nat → Nat → Int32} {Q : Option Value → pH → Prop} (s_E : oE E) {x1 : Int32} {x2 : Int32} {x3 : Int32} {xs0 : Int32} {xs1 : Int32} : wG d 230 (90, [.ref 101, .int x1, .int x2, .int x3], [.int xs1, .int xs0], mkH E ro) Q = Q (some (.int (xs0 - xs1))) (mkH E ro) := by
  refine (r_isub rfl rfl).trans ?_
  exact r_iret rfl rfl

theorem sg_X10_tellsBy_98 {d : Nat} {E : pEv} {ro : Nat → Nat → Int32} {Q : Option Value → pH → Prop} (s_E : oE E) {x1 : Int32} {x2 : Int32} {v3 : Value} : wG d 230 (98, [.ref 101, .int x1, .int x2, v3], [], mkH E ro) Q = wX d 226 [.ref 101] (mkH E ro) (fun v h' => wG d 230 (103, [.ref 101, .int x1, .int x2, v3], pv v [.ref 101], h') Q) := by
  refine (r_aload_n rfl rfl rfl).trans ?_
  refine (r_aload_n rfl rfl rfl).trans ?_
  exact r_inv (m := 226) (c := 10) rfl rfl rfl rfl rfl rfl rfl rfl

theorem sg_X10_tellsBy_103 {d : Nat} {E : pEv} {ro : Nat → Nat → Int32} {Q : Option Value → pH → Prop} (s_E : oE E) {x1 : Int32} {x2 : Int32} {v3 : Value} {xs1 : Int32} : wG d 230 (103, [.ref 101, .int x1, .int x2, v3], [.int xs1, .ref 101], mkH E ro) Q = wX d 228 [.ref 101, .int xs1, .int x2] (mkH E ro) (fun v h' => wG d 230 (107, [.ref 101, .int x1, .int x2, v3], pv v [], h') Q) := by
  refine (r_iload_n rfl rfl rfl).trans ?_
  exact r_inv (m := 228) (c := 10) rfl rfl rfl rfl rfl rfl rfl rfl

theorem sg_X10_tellsBy_107 {d : Nat} {E : pEv} {ro : Nat → Nat → Int32} {Q : Option Value → pH → Prop} (s_E : oE E) {x1 : Int32} {x2 : Int32} {v3 : Value} {xs0 : Int32} : wG d 230 (107, [.ref 101, .int x1, .int x2, v3], [.int xs0], mkH E ro) Q = wX d 175 [.int 6] (mkH E ro) (fun v h' => wG d 230 (115, [.ref 101, .int x1, .int x2, .int xs0], pv v [.ref 101, .int xs0], h') Q) := by
  refine (r_istore_n rfl rfl rfl rfl).trans ?_
  refine (r_iload_n rfl rfl rfl).trans ?_
  refine (r_aload_n rfl rfl rfl).trans ?_
  refine (r_bipush (v := 6) rfl rfl rfl).trans ?_
  exact r_ins (m := 175) rfl rfl rfl rfl rfl rfl

theorem sg_X10_tellsBy_115 {d : Nat} {E : pEv} {ro : Nat → Nat → Int32} {Q : Option Value → pH → Prop} (s_E : oE E) {x1 : Int32} {x2 : Int32} {x3 : Int32} {xs0 : Int32} {xs2 : Int32} : wG d 230 (115, [.ref 101, .int x1, .int x2, .int x3], [.int xs2, .ref 101, .int xs0], mkH E ro) Q = wX d 230 [.ref 101, .int xs2, .int x2] (mkH E ro) (fun v h' => wG d 230 (119, [.ref 101, .int x1, .int x2, .int x3], pv v [.int xs0], h') Q) := by
  refine (r_iload_n rfl rfl rfl).trans ?_
  exact r_inv (m := 230) (c := 10) rfl rfl rfl rfl rfl rfl rfl rfl

theorem sg_X10_tellsBy_119 {d : Nat} {E : pEv} {ro : Nat → Nat → Int32} {Q : Option Value → pH → Prop} (s_E : oE E) {x1 : Int32} {x2 : Int32} {x3 : Int32} {xs0 : Int32} {xs1 : Int32} : wG d 230 (119, [.ref 101, .int x1, .int x2, .int x3], [.int xs1, .int xs0], mkH E ro) Q = Q (some (.int (xs0 - xs1))) (mkH E ro) := by
  refine (r_isub rfl rfl).trans ?_
  exact r_iret rfl rfl

theorem sg_X10_tellsBy_126 {d : Nat} {E : pEv} {ro : Nat → Nat → Int32} {Q : Option Value → pH → Prop} (s_E : oE E) {x1 : Int32} {x2 : Int32} {v3 : Value} {xs1 : Int32} : wG d 230 (126, [.ref 101, .int x1, .int x2, v3], [.int xs1, .ref 101], mkH E ro) Q = wX d 230 [.ref 101, .int xs1, .int x2] (mkH E ro) (fun v h' => wG d 230 (130, [.ref 101, .int x1, .int x2, v3], pv v [], h') Q) := by
  refine (r_iload_n rfl rfl rfl).trans ?_
  exact r_inv (m := 230) (c := 10) rfl rfl rfl rfl rfl rfl rfl rfl

theorem sg_X10_tellsBy_130 {d : Nat} {E : pEv} {ro : Nat → Nat → Int32} {Q : Option Value → pH → Prop} (s_E : oE E) {x1 : Int32} {x2 : Int32} {v3 : Value} {xs0 : Int32} : wG d 230 (130, [.ref 101, .int x1, .int x2, v3], [.int xs0], mkH E ro) Q = Q (some (.int xs0)) (mkH E ro) := by
  exact r_iret rfl rfl

theorem en_X10_voice {d : Nat} {E : pEv} {ro : Nat → Nat → Int32} {Q : Option Value → pH → Prop} (s_E : oE E) {x1 : Int32} {x2 : Int32} {x3 : Int32} : wX (d + 1) 231 [.ref 101, .int x1, .int x2, .int x3] (mkH E ro) Q = wX d 156 [.ref 101, .int x1] (mkH E ro) (fun v h' => wG d 231 (5, [.ref 101, .int x1, .int x2, .int x3, .retAddr 0], pv v [], h') Q) := by
  refine (wX_in rfl (by decide)).trans ?_
  show wG d 231 (0, [.ref 101, .int x1, .int x2, .int x3, .retAddr 0], [], mkH E ro) Q = _
  refine (r_aload_n rfl rfl rfl).trans ?_
  refine (r_iload_n rfl rfl rfl).trans ?_
  exact r_inv (m := 156) (c := 10) rfl rfl rfl rfl rfl rfl rfl rfl

theorem sg_X10_voice_5 {d : Nat} {E : pEv} {ro : Nat → Nat → Int32} {Q : Option Value → pH → Prop} (s_E : oE E) {x1 : Int32} {x2 : Int32} {x3 : Int32} {v4 : Value} {xs0 : Int32} : wG d 231 (5, [.ref 101, .int x1, .int x2, .int x3, v4], [.int xs0], mkH E ro) Q = (if xs0 = 0 then wX d 153 [.ref 101, .int 1] (mkH E ro) (fun v h' => wG d 231 (25, [.ref 101, .int x1, .int x2, .int x3, v4], pv v [], h') Q) else wX d 154 [.long x2.toInt64, .long 0, .long 3] (mkH E ro) (fun v h' => wG d 231 (17, [.ref 101, .int x1, .int x2, .int x3, v4], pv v [], h') Q)) := by
  refine (r_if_eq rfl rfl rfl).trans ?_
  refine ite_congr rfl (fun h_0 => ?_) (fun h_0 => ?_)
  · refine (r_aload_n rfl rfl rfl).trans ?_
    refine (r_iconst (v := 1) rfl rfl rfl).trans ?_
    exact r_inv (m := 153) (c := 10) rfl rfl rfl rfl rfl rfl rfl rfl
  · refine (r_iload_n rfl rfl rfl).trans ?_
    refine (r_i2l rfl rfl).trans ?_
    refine (r_lconst (w := 0) rfl rfl rfl).trans ?_
    refine (r_ldc2_w (w := 3) rfl rfl rfl).trans ?_
    exact r_ins (m := 154) rfl rfl rfl rfl rfl rfl

theorem sg_X10_voice_17 {d : Nat} {E : pEv} {ro : Nat → Nat → Int32} {Q : Option Value → pH → Prop} (s_E : oE E) {x1 : Int32} {x2 : Int32} {x3 : Int32} {v4 : Value} {xs0 : Int32} : wG d 231 (17, [.ref 101, .int x1, .int x2, .int x3, v4], [.int xs0], mkH E ro) Q = (if xs0 = 0 then wX d 153 [.ref 101, .int 1] (mkH E ro) (fun v h' => wG d 231 (25, [.ref 101, .int x1, .int x2, .int x3, v4], pv v [], h') Q) else wX d 226 [.ref 101] (mkH E (uI (uI ro 101 19 0) 101 20 x1)) (fun v h' => wG d 231 (40, [.ref 101, .int x1, .int x2, .int x3, v4], pv v [], h') Q)) := by
  refine (r_if_ne rfl rfl rfl).trans ?_
  refine ite_congr rfl (fun h_0 => ?_) (fun h_0 => ?_)
  · refine (r_aload_n rfl rfl rfl).trans ?_
    refine (r_iconst (v := 1) rfl rfl rfl).trans ?_
    exact r_inv (m := 153) (c := 10) rfl rfl rfl rfl rfl rfl rfl rfl
  · refine (r_aload_n rfl rfl rfl).trans ?_
    refine (r_iconst (v := 0) rfl rfl rfl).trans ?_
    refine (r_putI (ci := 10) (sl := 19) rfl rfl rfl rfl (by decide)).trans ?_
    refine (r_aload_n rfl rfl rfl).trans ?_
    refine (r_iload_n rfl rfl rfl).trans ?_
    refine (r_putI (ci := 10) (sl := 20) rfl rfl rfl rfl (by decide)).trans ?_
    refine (r_aload_n rfl rfl rfl).trans ?_
    exact r_inv (m := 226) (c := 10) rfl rfl rfl rfl rfl rfl rfl rfl

theorem sg_X10_voice_25 {d : Nat} {E : pEv} {ro : Nat → Nat → Int32} {Q : Option Value → pH → Prop} (s_E : oE E) {x1 : Int32} {x2 : Int32} {x3 : Int32} {v4 : Value} {xs0 : Int32} : wG d 231 (25, [.ref 101, .int x1, .int x2, .int x3, v4], [.int xs0], mkH E ro) Q = Q (some (.int xs0)) (mkH E ro) := by
  exact r_iret rfl rfl

theorem sg_X10_voice_40 {d : Nat} {E : pEv} {ro : Nat → Nat → Int32} {Q : Option Value → pH → Prop} (s_E : oE E) {x1 : Int32} {x2 : Int32} {x3 : Int32} {v4 : Value} {xs0 : Int32} : wG d 231 (40, [.ref 101, .int x1, .int x2, .int x3, v4], [.int xs0], mkH E ro) Q = (if x2 = 0 then wX d 227 [.ref 101, .int xs0, .int x3] (mkH E ro) (fun v h' => wG d 231 (53, [.ref 101, .int x1, .int x2, .int x3, .int xs0], pv v [], h') Q) else (if x2 = 1 then wX d 228 [.ref 101, .int xs0, .int x3] (mkH E ro) (fun v h' => wG d 231 (68, [.ref 101, .int x1, .int x2, .int x3, .int xs0], pv v [], h') Q) else (if x2 = 2 then wX d 229 [.ref 101, .int xs0, .int x3] (mkH E ro) (fun v h' => wG d 231 (83, [.ref 101, .int x1, .int x2, .int x3, .int xs0], pv v [], h') Q) else wX d 230 [.ref 101, .int xs0, .int x3] (mkH E ro) (fun v h' => wG d 231 (93, [.ref 101, .int x1, .int x2, .int x3, .int xs0], pv v [], h') Q)))) := by
  refine (r_istore rfl rfl rfl rfl).trans ?_
  refine (r_iload_n rfl rfl rfl).trans ?_
  refine (r_if_ne rfl rfl rfl).trans ?_
  refine ite_congr rfl (fun h_0 => ?_) (fun h_0 => ?_)
  · refine (r_aload_n rfl rfl rfl).trans ?_
    refine (r_iload rfl rfl rfl).trans ?_
    refine (r_iload_n rfl rfl rfl).trans ?_
    exact r_inv (m := 227) (c := 10) rfl rfl rfl rfl rfl rfl rfl rfl
  · refine (r_iload_n rfl rfl rfl).trans ?_
    refine (r_iconst (v := 1) rfl rfl rfl).trans ?_
    refine (r_icmp_ne rfl rfl rfl).trans ?_
    refine ite_congr rfl (fun h_1 => ?_) (fun h_1 => ?_)
    · refine (r_aload_n rfl rfl rfl).trans ?_
      refine (r_iload rfl rfl rfl).trans ?_
      refine (r_iload_n rfl rfl rfl).trans ?_
      exact r_inv (m := 228) (c := 10) rfl rfl rfl rfl rfl rfl rfl rfl
    · refine (r_iload_n rfl rfl rfl).trans ?_
      refine (r_iconst (v := 2) rfl rfl rfl).trans ?_
      refine (r_icmp_ne rfl rfl rfl).trans ?_
      refine ite_congr rfl (fun h_2 => ?_) (fun h_2 => ?_)
      · refine (r_aload_n rfl rfl rfl).trans ?_
        refine (r_iload rfl rfl rfl).trans ?_
        refine (r_iload_n rfl rfl rfl).trans ?_
        exact r_inv (m := 229) (c := 10) rfl rfl rfl rfl rfl rfl rfl rfl
      · refine (r_aload_n rfl rfl rfl).trans ?_
        refine (r_iload rfl rfl rfl).trans ?_
        refine (r_iload_n rfl rfl rfl).trans ?_
        exact r_inv (m := 230) (c := 10) rfl rfl rfl rfl rfl rfl rfl rfl

theorem sg_X10_voice_53 {d : Nat} {E : pEv} {ro : Nat → Nat → Int32} {Q : Option Value → pH → Prop} (s_E : oE E) {x1 : Int32} {x2 : Int32} {x3 : Int32} {x4 : Int32} {xs0 : Int32} : wG d 231 (53, [.ref 101, .int x1, .int x2, .int x3, .int x4], [.int xs0], mkH E ro) Q = Q (some (.int xs0)) (mkH E ro) := by
  refine (r_goto rfl rfl).trans ?_
  exact r_iret rfl rfl

theorem sg_X10_voice_68 {d : Nat} {E : pEv} {ro : Nat → Nat → Int32} {Q : Option Value → pH → Prop} (s_E : oE E) {x1 : Int32} {x2 : Int32} {x3 : Int32} {x4 : Int32} {xs0 : Int32} : wG d 231 (68, [.ref 101, .int x1, .int x2, .int x3, .int x4], [.int xs0], mkH E ro) Q = Q (some (.int xs0)) (mkH E ro) := by
  refine (r_goto rfl rfl).trans ?_
  exact r_iret rfl rfl

theorem sg_X10_voice_83 {d : Nat} {E : pEv} {ro : Nat → Nat → Int32} {Q : Option Value → pH → Prop} (s_E : oE E) {x1 : Int32} {x2 : Int32} {x3 : Int32} {x4 : Int32} {xs0 : Int32} : wG d 231 (83, [.ref 101, .int x1, .int x2, .int x3, .int x4], [.int xs0], mkH E ro) Q = Q (some (.int xs0)) (mkH E ro) := by
  refine (r_goto rfl rfl).trans ?_
  exact r_iret rfl rfl

theorem sg_X10_voice_93 {d : Nat} {E : pEv} {ro : Nat → Nat → Int32} {Q : Option Value → pH → Prop} (s_E : oE E) {x1 : Int32} {x2 : Int32} {x3 : Int32} {x4 : Int32} {xs0 : Int32} : wG d 231 (93, [.ref 101, .int x1, .int x2, .int x3, .int x4], [.int xs0], mkH E ro) Q = Q (some (.int xs0)) (mkH E ro) := by
  exact r_iret rfl rfl

theorem en_X10_trace {d : Nat} {E : pEv} {ro : Nat → Nat → Int32} {Q : Option Value → pH → Prop} (s_E : oE E) {x1 : Int32} : wX (d + 1) 232 [.ref 101, .int x1] (mkH E ro) Q = wX d 154 [.long x1.toInt64, .long 0, .long (((ro 101 19) - 1).toInt64)] (mkH E ro) (fun v h' => wG d 232 (13, [.ref 101, .int x1], pv v [], h') Q) := by
  refine (wX_in rfl (by decide)).trans ?_
  show wG d 232 (0, [.ref 101, .int x1], [], mkH E ro) Q = _
  refine (r_iload_n rfl rfl rfl).trans ?_
  refine (r_i2l rfl rfl).trans ?_
  refine (r_lconst (w := 0) rfl rfl rfl).trans ?_
  refine (r_aload_n rfl rfl rfl).trans ?_
  refine (r_getI (ci := 10) (sl := 19) rfl rfl rfl rfl (by decide)).trans ?_
  refine (r_iconst (v := 1) rfl rfl rfl).trans ?_
  refine (r_isub rfl rfl).trans ?_
  refine (r_i2l rfl rfl).trans ?_
  exact r_ins (m := 154) rfl rfl rfl rfl rfl rfl

theorem sg_X10_trace_13 {d : Nat} {E : pEv} {ro : Nat → Nat → Int32} {Q : Option Value → pH → Prop} (s_E : oE E) {x1 : Int32} {xs0 : Int32} (b0 : (¬ xs0 = 0) → (¬ x1 < 0 ∧ x1.toNatClampNeg < 40)) : wG d 232 (13, [.ref 101, .int x1], [.int xs0], mkH E ro) Q = (if xs0 = 0 then wX d 153 [.ref 101, .int 2] (mkH E ro) (fun v h' => wG d 232 (30, [.ref 101, .int x1], pv v [], h') Q) else Q (some (.int (ro 111 x1.toNatClampNeg))) (mkH E ro)) := by
  refine (r_if_eq rfl rfl rfl).trans ?_
  refine ite_congr rfl (fun h_0 => ?_) (fun h_0 => ?_)
  · refine (r_aload_n rfl rfl rfl).trans ?_
    refine (r_iconst (v := 2) rfl rfl rfl).trans ?_
    exact r_inv (m := 153) (c := 10) rfl rfl rfl rfl rfl rfl rfl rfl
  · refine (r_aload_n rfl rfl rfl).trans ?_
    refine (r_getR (ci := 10) (sl := 18) s_E rfl rfl rfl rfl (by decide) rfl rfl).trans ?_
    refine (r_iload_n rfl rfl rfl).trans ?_
    refine (r_iald rfl rfl rfl (by decide) (b0 h_0)).trans ?_
    refine (r_goto rfl rfl).trans ?_
    exact r_iret rfl rfl

theorem sg_X10_trace_30 {d : Nat} {E : pEv} {ro : Nat → Nat → Int32} {Q : Option Value → pH → Prop} (s_E : oE E) {x1 : Int32} {xs0 : Int32} : wG d 232 (30, [.ref 101, .int x1], [.int xs0], mkH E ro) Q = Q (some (.int xs0)) (mkH E ro) := by
  exact r_iret rfl rfl

theorem en_X10_isSheet {d : Nat} {E : pEv} {ro : Nat → Nat → Int32} {Q : Option Value → pH → Prop} (s_E : oE E) {x0 : Int32} : wX (d + 1) 233 [.int x0] (mkH E ro) Q = wX d 154 [.long x0.toInt64, .long 0, .long 3] (mkH E ro) (fun v h' => wG d 233 (9, [.int x0], pv v [], h') Q) := by
  refine (wX_in rfl (by decide)).trans ?_
  show wG d 233 (0, [.int x0], [], mkH E ro) Q = _
  refine (r_iload_n rfl rfl rfl).trans ?_
  refine (r_i2l rfl rfl).trans ?_
  refine (r_lconst (w := 0) rfl rfl rfl).trans ?_
  refine (r_ldc2_w (w := 3) rfl rfl rfl).trans ?_
  exact r_ins (m := 154) rfl rfl rfl rfl rfl rfl

theorem sg_X10_isSheet_9 {d : Nat} {E : pEv} {ro : Nat → Nat → Int32} {Q : Option Value → pH → Prop} (s_E : oE E) {x0 : Int32} {xs0 : Int32} (b0 : (narrow .boolean (.int xs0) = .int xs0)) : wG d 233 (9, [.int x0], [.int xs0], mkH E ro) Q = Q (some (.int xs0)) (mkH E ro) := by
  exact r_zret rfl rfl b0

theorem en_X10_sheet {d : Nat} {E : pEv} {ro : Nat → Nat → Int32} {Q : Option Value → pH → Prop} (s_E : oE E) {x1 : Int32} {x2 : Int32} {x3 : Int32} : wX (d + 1) 234 [.ref 101, .int x1, .int x2, .int x3] (mkH E ro) Q = wX d 233 [.int x1] (mkH E ro) (fun v h' => wG d 234 (4, [.ref 101, .int x1, .int x2, .int x3, .retAddr 0], pv v [], h') Q) := by
  refine (wX_in rfl (by decide)).trans ?_
  show wG d 234 (0, [.ref 101, .int x1, .int x2, .int x3, .retAddr 0], [], mkH E ro) Q = _
  refine (r_iload_n rfl rfl rfl).trans ?_
  exact r_ins (m := 233) rfl rfl rfl rfl rfl rfl

theorem sg_X10_sheet_4 {d : Nat} {E : pEv} {ro : Nat → Nat → Int32} {Q : Option Value → pH → Prop} (s_E : oE E) {x1 : Int32} {x2 : Int32} {x3 : Int32} {v4 : Value} {xs0 : Int32} (b0 : (¬ xs0 = 0) → (x2 = 0) → (x2 = 0) → (x2 = 0) → (¬ x1 < 0 ∧ x1.toNatClampNeg < 4)) (b1 : (¬ xs0 = 0) → (x2 = 0) → (x2 = 0) → (x2 = 0) → (x2 = 0) → (¬ x1 < 0 ∧ x1.toNatClampNeg < 4)) (b2 : (¬ xs0 = 0) → (x2 = 0) → (x2 = 0) → (x2 = 0) → (¬ x2 = 0) → (¬ x1 < 0 ∧ x1.toNatClampNeg < 4)) (b3 : (¬ xs0 = 0) → (x2 = 0) → (x2 = 0) → (¬ x2 = 0) → (¬ 40 < x3) → (¬ x1 < 0 ∧ x1.toNatClampNeg < 4)) (b4 : (¬ xs0 = 0) → (x2 = 0) → (x2 = 0) → (¬ x2 = 0) → (¬ 40 < x3) → (x2 = 0) → (¬ x1 < 0 ∧ x1.toNatClampNeg < 4)) (b5 : (¬ xs0 = 0) → (x2 = 0) → (x2 = 0) → (¬ x2 = 0) → (¬ 40 < x3) → (¬ x2 = 0) → (¬ x1 < 0 ∧ x1.toNatClampNeg < 4)) (b6 : (¬ xs0 = 0) → (x2 = 0) → (¬ x2 = 0) → (¬ x3 < 0) → (x2 = 0) → (¬ x1 < 0 ∧ x1.toNatClampNeg < 4)) (b7 : (¬ xs0 = 0) → (x2 = 0) → (¬ x2 = 0) → (¬ x3 < 0) → (x2 = 0) → (x2 = 0) → (¬ x1 < 0 ∧ x1.toNatClampNeg < 4)) (b8 : (¬ xs0 = 0) → (x2 = 0) → (¬ x2 = 0) → (¬ x3 < 0) → (x2 = 0) → (¬ x2 = 0) → (¬ x1 < 0 ∧ x1.toNatClampNeg < 4)) (b9 : (¬ xs0 = 0) → (x2 = 0) → (¬ x2 = 0) → (¬ x3 < 0) → (¬ x2 = 0) → (¬ 40 < x3) → (¬ x1 < 0 ∧ x1.toNatClampNeg < 4)) (b10 : (¬ xs0 = 0) → (x2 = 0) → (¬ x2 = 0) → (¬ x3 < 0) → (¬ x2 = 0) → (¬ 40 < x3) → (x2 = 0) → (¬ x1 < 0 ∧ x1.toNatClampNeg < 4)) (b11 : (¬ xs0 = 0) → (x2 = 0) → (¬ x2 = 0) → (¬ x3 < 0) → (¬ x2 = 0) → (¬ 40 < x3) → (¬ x2 = 0) → (¬ x1 < 0 ∧ x1.toNatClampNeg < 4)) (b12 : (¬ xs0 = 0) → (¬ x2 = 0) → (x2 = 8) → (x2 = 0) → (x2 = 0) → (¬ x1 < 0 ∧ x1.toNatClampNeg < 4)) (b13 : (¬ xs0 = 0) → (¬ x2 = 0) → (x2 = 8) → (x2 = 0) → (x2 = 0) → (x2 = 0) → (¬ x1 < 0 ∧ x1.toNatClampNeg < 4)) (b14 : (¬ xs0 = 0) → (¬ x2 = 0) → (x2 = 8) → (x2 = 0) → (x2 = 0) → (¬ x2 = 0) → (¬ x1 < 0 ∧ x1.toNatClampNeg < 4)) (b15 : (¬ xs0 = 0) → (¬ x2 = 0) → (x2 = 8) → (x2 = 0) → (¬ x2 = 0) → (¬ 40 < x3) → (¬ x1 < 0 ∧ x1.toNatClampNeg < 4)) (b16 : (¬ xs0 = 0) → (¬ x2 = 0) → (x2 = 8) → (x2 = 0) → (¬ x2 = 0) → (¬ 40 < x3) → (x2 = 0) → (¬ x1 < 0 ∧ x1.toNatClampNeg < 4)) (b17 : (¬ xs0 = 0) → (¬ x2 = 0) → (x2 = 8) → (x2 = 0) → (¬ x2 = 0) → (¬ 40 < x3) → (¬ x2 = 0) → (¬ x1 < 0 ∧ x1.toNatClampNeg < 4)) (b18 : (¬ xs0 = 0) → (¬ x2 = 0) → (x2 = 8) → (¬ x2 = 0) → (¬ x3 < 0) → (x2 = 0) → (¬ x1 < 0 ∧ x1.toNatClampNeg < 4)) (b19 : (¬ xs0 = 0) → (¬ x2 = 0) → (x2 = 8) → (¬ x2 = 0) → (¬ x3 < 0) → (x2 = 0) → (x2 = 0) → (¬ x1 < 0 ∧ x1.toNatClampNeg < 4)) (b20 : (¬ xs0 = 0) → (¬ x2 = 0) → (x2 = 8) → (¬ x2 = 0) → (¬ x3 < 0) → (x2 = 0) → (¬ x2 = 0) → (¬ x1 < 0 ∧ x1.toNatClampNeg < 4)) (b21 : (¬ xs0 = 0) → (¬ x2 = 0) → (x2 = 8) → (¬ x2 = 0) → (¬ x3 < 0) → (¬ x2 = 0) → (¬ 40 < x3) → (¬ x1 < 0 ∧ x1.toNatClampNeg < 4)) (b22 : (¬ xs0 = 0) → (¬ x2 = 0) → (x2 = 8) → (¬ x2 = 0) → (¬ x3 < 0) → (¬ x2 = 0) → (¬ 40 < x3) → (x2 = 0) → (¬ x1 < 0 ∧ x1.toNatClampNeg < 4)) (b23 : (¬ xs0 = 0) → (¬ x2 = 0) → (x2 = 8) → (¬ x2 = 0) → (¬ x3 < 0) → (¬ x2 = 0) → (¬ 40 < x3) → (¬ x2 = 0) → (¬ x1 < 0 ∧ x1.toNatClampNeg < 4)) (b24 : (¬ xs0 = 0) → (¬ x2 = 0) → (¬ x2 = 8) → (x2 = 16) → (x2 = 0) → (x2 = 0) → (¬ x1 < 0 ∧ x1.toNatClampNeg < 4)) (b25 : (¬ xs0 = 0) → (¬ x2 = 0) → (¬ x2 = 8) → (x2 = 16) → (x2 = 0) → (x2 = 0) → (x2 = 0) → (¬ x1 < 0 ∧ x1.toNatClampNeg < 4)) (b26 : (¬ xs0 = 0) → (¬ x2 = 0) → (¬ x2 = 8) → (x2 = 16) → (x2 = 0) → (x2 = 0) → (¬ x2 = 0) → (¬ x1 < 0 ∧ x1.toNatClampNeg < 4)) (b27 : (¬ xs0 = 0) → (¬ x2 = 0) → (¬ x2 = 8) → (x2 = 16) → (x2 = 0) → (¬ x2 = 0) → (¬ 40 < x3) → (¬ x1 < 0 ∧ x1.toNatClampNeg < 4)) (b28 : (¬ xs0 = 0) → (¬ x2 = 0) → (¬ x2 = 8) → (x2 = 16) → (x2 = 0) → (¬ x2 = 0) → (¬ 40 < x3) → (x2 = 0) → (¬ x1 < 0 ∧ x1.toNatClampNeg < 4)) (b29 : (¬ xs0 = 0) → (¬ x2 = 0) → (¬ x2 = 8) → (x2 = 16) → (x2 = 0) → (¬ x2 = 0) → (¬ 40 < x3) → (¬ x2 = 0) → (¬ x1 < 0 ∧ x1.toNatClampNeg < 4)) (b30 : (¬ xs0 = 0) → (¬ x2 = 0) → (¬ x2 = 8) → (x2 = 16) → (¬ x2 = 0) → (¬ x3 < 0) → (x2 = 0) → (¬ x1 < 0 ∧ x1.toNatClampNeg < 4)) (b31 : (¬ xs0 = 0) → (¬ x2 = 0) → (¬ x2 = 8) → (x2 = 16) → (¬ x2 = 0) → (¬ x3 < 0) → (x2 = 0) → (x2 = 0) → (¬ x1 < 0 ∧ x1.toNatClampNeg < 4)) (b32 : (¬ xs0 = 0) → (¬ x2 = 0) → (¬ x2 = 8) → (x2 = 16) → (¬ x2 = 0) → (¬ x3 < 0) → (x2 = 0) → (¬ x2 = 0) → (¬ x1 < 0 ∧ x1.toNatClampNeg < 4)) (b33 : (¬ xs0 = 0) → (¬ x2 = 0) → (¬ x2 = 8) → (x2 = 16) → (¬ x2 = 0) → (¬ x3 < 0) → (¬ x2 = 0) → (¬ 40 < x3) → (¬ x1 < 0 ∧ x1.toNatClampNeg < 4)) (b34 : (¬ xs0 = 0) → (¬ x2 = 0) → (¬ x2 = 8) → (x2 = 16) → (¬ x2 = 0) → (¬ x3 < 0) → (¬ x2 = 0) → (¬ 40 < x3) → (x2 = 0) → (¬ x1 < 0 ∧ x1.toNatClampNeg < 4)) (b35 : (¬ xs0 = 0) → (¬ x2 = 0) → (¬ x2 = 8) → (x2 = 16) → (¬ x2 = 0) → (¬ x3 < 0) → (¬ x2 = 0) → (¬ 40 < x3) → (¬ x2 = 0) → (¬ x1 < 0 ∧ x1.toNatClampNeg < 4)) (b36 : (¬ xs0 = 0) → (¬ x2 = 0) → (¬ x2 = 8) → (¬ x2 = 16) → (x2 = 32) → (x2 = 0) → (x2 = 0) → (¬ x1 < 0 ∧ x1.toNatClampNeg < 4)) (b37 : (¬ xs0 = 0) → (¬ x2 = 0) → (¬ x2 = 8) → (¬ x2 = 16) → (x2 = 32) → (x2 = 0) → (x2 = 0) → (x2 = 0) → (¬ x1 < 0 ∧ x1.toNatClampNeg < 4)) (b38 : (¬ xs0 = 0) → (¬ x2 = 0) → (¬ x2 = 8) → (¬ x2 = 16) → (x2 = 32) → (x2 = 0) → (x2 = 0) → (¬ x2 = 0) → (¬ x1 < 0 ∧ x1.toNatClampNeg < 4)) (b39 : (¬ xs0 = 0) → (¬ x2 = 0) → (¬ x2 = 8) → (¬ x2 = 16) → (x2 = 32) → (x2 = 0) → (¬ x2 = 0) → (¬ 40 < x3) → (¬ x1 < 0 ∧ x1.toNatClampNeg < 4)) (b40 : (¬ xs0 = 0) → (¬ x2 = 0) → (¬ x2 = 8) → (¬ x2 = 16) → (x2 = 32) → (x2 = 0) → (¬ x2 = 0) → (¬ 40 < x3) → (x2 = 0) → (¬ x1 < 0 ∧ x1.toNatClampNeg < 4)) (b41 : (¬ xs0 = 0) → (¬ x2 = 0) → (¬ x2 = 8) → (¬ x2 = 16) → (x2 = 32) → (x2 = 0) → (¬ x2 = 0) → (¬ 40 < x3) → (¬ x2 = 0) → (¬ x1 < 0 ∧ x1.toNatClampNeg < 4)) (b42 : (¬ xs0 = 0) → (¬ x2 = 0) → (¬ x2 = 8) → (¬ x2 = 16) → (x2 = 32) → (¬ x2 = 0) → (¬ x3 < 0) → (x2 = 0) → (¬ x1 < 0 ∧ x1.toNatClampNeg < 4)) (b43 : (¬ xs0 = 0) → (¬ x2 = 0) → (¬ x2 = 8) → (¬ x2 = 16) → (x2 = 32) → (¬ x2 = 0) → (¬ x3 < 0) → (x2 = 0) → (x2 = 0) → (¬ x1 < 0 ∧ x1.toNatClampNeg < 4)) (b44 : (¬ xs0 = 0) → (¬ x2 = 0) → (¬ x2 = 8) → (¬ x2 = 16) → (x2 = 32) → (¬ x2 = 0) → (¬ x3 < 0) → (x2 = 0) → (¬ x2 = 0) → (¬ x1 < 0 ∧ x1.toNatClampNeg < 4)) (b45 : (¬ xs0 = 0) → (¬ x2 = 0) → (¬ x2 = 8) → (¬ x2 = 16) → (x2 = 32) → (¬ x2 = 0) → (¬ x3 < 0) → (¬ x2 = 0) → (¬ 40 < x3) → (¬ x1 < 0 ∧ x1.toNatClampNeg < 4)) (b46 : (¬ xs0 = 0) → (¬ x2 = 0) → (¬ x2 = 8) → (¬ x2 = 16) → (x2 = 32) → (¬ x2 = 0) → (¬ x3 < 0) → (¬ x2 = 0) → (¬ 40 < x3) → (x2 = 0) → (¬ x1 < 0 ∧ x1.toNatClampNeg < 4)) (b47 : (¬ xs0 = 0) → (¬ x2 = 0) → (¬ x2 = 8) → (¬ x2 = 16) → (x2 = 32) → (¬ x2 = 0) → (¬ x3 < 0) → (¬ x2 = 0) → (¬ 40 < x3) → (¬ x2 = 0) → (¬ x1 < 0 ∧ x1.toNatClampNeg < 4)) : wG d 234 (4, [.ref 101, .int x1, .int x2, .int x3, v4], [.int xs0], mkH E ro) Q = (if xs0 = 0 then wX d 153 [.ref 101, .int 1] (mkH E ro) (fun v h' => wG d 234 (34, [.ref 101, .int x1, .int x2, .int x3, v4], pv v [], h') Q) else (if x2 = 0 then (if x2 = 0 then (if x2 = 0 then (if x2 = 0 then wG d 234 (90, [.ref 101, .int x1, .int x2, .int x3, .int 0], [], mkH E (uI (uI ro 112 x1.toNatClampNeg x2) 113 x1.toNatClampNeg 0)) Q else wG d 234 (90, [.ref 101, .int x1, .int x2, .int x3, .int 0], [], mkH E (uI (uI ro 112 x1.toNatClampNeg x2) 113 x1.toNatClampNeg x3)) Q) else (if 40 < x3 then wX d 153 [.ref 101, .int 1] (mkH E ro) (fun v h' => wG d 234 (64, [.ref 101, .int x1, .int x2, .int x3, v4], pv v [], h') Q) else (if x2 = 0 then wG d 234 (90, [.ref 101, .int x1, .int x2, .int x3, .int 0], [], mkH E (uI (uI ro 112 x1.toNatClampNeg x2) 113 x1.toNatClampNeg 0)) Q else wG d 234 (90, [.ref 101, .int x1, .int x2, .int x3, .int 0], [], mkH E (uI (uI ro 112 x1.toNatClampNeg x2) 113 x1.toNatClampNeg x3)) Q))) else (if x3 < 0 then wX d 153 [.ref 101, .int 3] (mkH E ro) (fun v h' => wG d 234 (48, [.ref 101, .int x1, .int x2, .int x3, v4], pv v [], h') Q) else (if x2 = 0 then (if x2 = 0 then wG d 234 (90, [.ref 101, .int x1, .int x2, .int x3, .int 0], [], mkH E (uI (uI ro 112 x1.toNatClampNeg x2) 113 x1.toNatClampNeg 0)) Q else wG d 234 (90, [.ref 101, .int x1, .int x2, .int x3, .int 0], [], mkH E (uI (uI ro 112 x1.toNatClampNeg x2) 113 x1.toNatClampNeg x3)) Q) else (if 40 < x3 then wX d 153 [.ref 101, .int 1] (mkH E ro) (fun v h' => wG d 234 (64, [.ref 101, .int x1, .int x2, .int x3, v4], pv v [], h') Q) else (if x2 = 0 then wG d 234 (90, [.ref 101, .int x1, .int x2, .int x3, .int 0], [], mkH E (uI (uI ro 112 x1.toNatClampNeg x2) 113 x1.toNatClampNeg 0)) Q else wG d 234 (90, [.ref 101, .int x1, .int x2, .int x3, .int 0], [], mkH E (uI (uI ro 112 x1.toNatClampNeg x2) 113 x1.toNatClampNeg x3)) Q))))) else (if x2 = 8 then (if x2 = 0 then (if x2 = 0 then (if x2 = 0 then wG d 234 (90, [.ref 101, .int x1, .int x2, .int x3, .int 0], [], mkH E (uI (uI ro 112 x1.toNatClampNeg x2) 113 x1.toNatClampNeg 0)) Q else wG d 234 (90, [.ref 101, .int x1, .int x2, .int x3, .int 0], [], mkH E (uI (uI ro 112 x1.toNatClampNeg x2) 113 x1.toNatClampNeg x3)) Q) else (if 40 < x3 then wX d 153 [.ref 101, .int 1] (mkH E ro) (fun v h' => wG d 234 (64, [.ref 101, .int x1, .int x2, .int x3, v4], pv v [], h') Q) else (if x2 = 0 then wG d 234 (90, [.ref 101, .int x1, .int x2, .int x3, .int 0], [], mkH E (uI (uI ro 112 x1.toNatClampNeg x2) 113 x1.toNatClampNeg 0)) Q else wG d 234 (90, [.ref 101, .int x1, .int x2, .int x3, .int 0], [], mkH E (uI (uI ro 112 x1.toNatClampNeg x2) 113 x1.toNatClampNeg x3)) Q))) else (if x3 < 0 then wX d 153 [.ref 101, .int 3] (mkH E ro) (fun v h' => wG d 234 (48, [.ref 101, .int x1, .int x2, .int x3, v4], pv v [], h') Q) else (if x2 = 0 then (if x2 = 0 then wG d 234 (90, [.ref 101, .int x1, .int x2, .int x3, .int 0], [], mkH E (uI (uI ro 112 x1.toNatClampNeg x2) 113 x1.toNatClampNeg 0)) Q else wG d 234 (90, [.ref 101, .int x1, .int x2, .int x3, .int 0], [], mkH E (uI (uI ro 112 x1.toNatClampNeg x2) 113 x1.toNatClampNeg x3)) Q) else (if 40 < x3 then wX d 153 [.ref 101, .int 1] (mkH E ro) (fun v h' => wG d 234 (64, [.ref 101, .int x1, .int x2, .int x3, v4], pv v [], h') Q) else (if x2 = 0 then wG d 234 (90, [.ref 101, .int x1, .int x2, .int x3, .int 0], [], mkH E (uI (uI ro 112 x1.toNatClampNeg x2) 113 x1.toNatClampNeg 0)) Q else wG d 234 (90, [.ref 101, .int x1, .int x2, .int x3, .int 0], [], mkH E (uI (uI ro 112 x1.toNatClampNeg x2) 113 x1.toNatClampNeg x3)) Q))))) else (if x2 = 16 then (if x2 = 0 then (if x2 = 0 then (if x2 = 0 then wG d 234 (90, [.ref 101, .int x1, .int x2, .int x3, .int 0], [], mkH E (uI (uI ro 112 x1.toNatClampNeg x2) 113 x1.toNatClampNeg 0)) Q else wG d 234 (90, [.ref 101, .int x1, .int x2, .int x3, .int 0], [], mkH E (uI (uI ro 112 x1.toNatClampNeg x2) 113 x1.toNatClampNeg x3)) Q) else (if 40 < x3 then wX d 153 [.ref 101, .int 1] (mkH E ro) (fun v h' => wG d 234 (64, [.ref 101, .int x1, .int x2, .int x3, v4], pv v [], h') Q) else (if x2 = 0 then wG d 234 (90, [.ref 101, .int x1, .int x2, .int x3, .int 0], [], mkH E (uI (uI ro 112 x1.toNatClampNeg x2) 113 x1.toNatClampNeg 0)) Q else wG d 234 (90, [.ref 101, .int x1, .int x2, .int x3, .int 0], [], mkH E (uI (uI ro 112 x1.toNatClampNeg x2) 113 x1.toNatClampNeg x3)) Q))) else (if x3 < 0 then wX d 153 [.ref 101, .int 3] (mkH E ro) (fun v h' => wG d 234 (48, [.ref 101, .int x1, .int x2, .int x3, v4], pv v [], h') Q) else (if x2 = 0 then (if x2 = 0 then wG d 234 (90, [.ref 101, .int x1, .int x2, .int x3, .int 0], [], mkH E (uI (uI ro 112 x1.toNatClampNeg x2) 113 x1.toNatClampNeg 0)) Q else wG d 234 (90, [.ref 101, .int x1, .int x2, .int x3, .int 0], [], mkH E (uI (uI ro 112 x1.toNatClampNeg x2) 113 x1.toNatClampNeg x3)) Q) else (if 40 < x3 then wX d 153 [.ref 101, .int 1] (mkH E ro) (fun v h' => wG d 234 (64, [.ref 101, .int x1, .int x2, .int x3, v4], pv v [], h') Q) else (if x2 = 0 then wG d 234 (90, [.ref 101, .int x1, .int x2, .int x3, .int 0], [], mkH E (uI (uI ro 112 x1.toNatClampNeg x2) 113 x1.toNatClampNeg 0)) Q else wG d 234 (90, [.ref 101, .int x1, .int x2, .int x3, .int 0], [], mkH E (uI (uI ro 112 x1.toNatClampNeg x2) 113 x1.toNatClampNeg x3)) Q))))) else (if x2 = 32 then (if x2 = 0 then (if x2 = 0 then (if x2 = 0 then wG d 234 (90, [.ref 101, .int x1, .int x2, .int x3, .int 0], [], mkH E (uI (uI ro 112 x1.toNatClampNeg x2) 113 x1.toNatClampNeg 0)) Q else wG d 234 (90, [.ref 101, .int x1, .int x2, .int x3, .int 0], [], mkH E (uI (uI ro 112 x1.toNatClampNeg x2) 113 x1.toNatClampNeg x3)) Q) else (if 40 < x3 then wX d 153 [.ref 101, .int 1] (mkH E ro) (fun v h' => wG d 234 (64, [.ref 101, .int x1, .int x2, .int x3, v4], pv v [], h') Q) else (if x2 = 0 then wG d 234 (90, [.ref 101, .int x1, .int x2, .int x3, .int 0], [], mkH E (uI (uI ro 112 x1.toNatClampNeg x2) 113 x1.toNatClampNeg 0)) Q else wG d 234 (90, [.ref 101, .int x1, .int x2, .int x3, .int 0], [], mkH E (uI (uI ro 112 x1.toNatClampNeg x2) 113 x1.toNatClampNeg x3)) Q))) else (if x3 < 0 then wX d 153 [.ref 101, .int 3] (mkH E ro) (fun v h' => wG d 234 (48, [.ref 101, .int x1, .int x2, .int x3, v4], pv v [], h') Q) else (if x2 = 0 then (if x2 = 0 then wG d 234 (90, [.ref 101, .int x1, .int x2, .int x3, .int 0], [], mkH E (uI (uI ro 112 x1.toNatClampNeg x2) 113 x1.toNatClampNeg 0)) Q else wG d 234 (90, [.ref 101, .int x1, .int x2, .int x3, .int 0], [], mkH E (uI (uI ro 112 x1.toNatClampNeg x2) 113 x1.toNatClampNeg x3)) Q) else (if 40 < x3 then wX d 153 [.ref 101, .int 1] (mkH E ro) (fun v h' => wG d 234 (64, [.ref 101, .int x1, .int x2, .int x3, v4], pv v [], h') Q) else (if x2 = 0 then wG d 234 (90, [.ref 101, .int x1, .int x2, .int x3, .int 0], [], mkH E (uI (uI ro 112 x1.toNatClampNeg x2) 113 x1.toNatClampNeg 0)) Q else wG d 234 (90, [.ref 101, .int x1, .int x2, .int x3, .int 0], [], mkH E (uI (uI ro 112 x1.toNatClampNeg x2) 113 x1.toNatClampNeg x3)) Q))))) else wX d 153 [.ref 101, .int 1] (mkH E ro) (fun v h' => wG d 234 (34, [.ref 101, .int x1, .int x2, .int x3, v4], pv v [], h') Q)))))) := by
  refine (r_if_eq rfl rfl rfl).trans ?_
  refine ite_congr rfl (fun h_0 => ?_) (fun h_0 => ?_)
  · refine (r_aload_n rfl rfl rfl).trans ?_
    refine (r_iconst (v := 1) rfl rfl rfl).trans ?_
    exact r_inv (m := 153) (c := 10) rfl rfl rfl rfl rfl rfl rfl rfl
  · refine (r_iload_n rfl rfl rfl).trans ?_
    refine (r_if_eq rfl rfl rfl).trans ?_
    refine ite_congr rfl (fun h_1 => ?_) (fun h_1 => ?_)
    · refine (r_iload_n rfl rfl rfl).trans ?_
      refine (r_if_eq rfl rfl rfl).trans ?_
      refine ite_congr rfl (fun h_2 => ?_) (fun h_2 => ?_)
      · refine (r_iload_n rfl rfl rfl).trans ?_
        refine (r_if_eq rfl rfl rfl).trans ?_
        refine ite_congr rfl (fun h_3 => ?_) (fun h_3 => ?_)
        · refine (r_aload_n rfl rfl rfl).trans ?_
          refine (r_getR (ci := 10) (sl := 21) s_E rfl rfl rfl rfl (by decide) rfl rfl).trans ?_
          refine (r_iload_n rfl rfl rfl).trans ?_
          refine (r_iload_n rfl rfl rfl).trans ?_
          refine (r_iast rfl rfl rfl (by decide) (b0 h_0 h_1 h_2 h_3)).trans ?_
          refine (r_aload_n rfl rfl rfl).trans ?_
          refine (r_getR (ci := 10) (sl := 22) s_E rfl rfl rfl rfl (by decide) rfl rfl).trans ?_
          refine (r_iload_n rfl rfl rfl).trans ?_
          refine (r_iload_n rfl rfl rfl).trans ?_
          refine (r_if_ne rfl rfl rfl).trans ?_
          refine ite_congr rfl (fun h_4 => ?_) (fun h_4 => ?_)
          · refine (r_iconst (v := 0) rfl rfl rfl).trans ?_
            refine (r_goto rfl rfl).trans ?_
            refine (r_iast rfl rfl rfl (by decide) (b1 h_0 h_1 h_2 h_3 h_4)).trans ?_
            refine (r_iconst (v := 0) rfl rfl rfl).trans ?_
            refine (r_istore rfl rfl rfl rfl).trans ?_
            exact rfl
          · refine (r_iload_n rfl rfl rfl).trans ?_
            refine (r_iast rfl rfl rfl (by decide) (b2 h_0 h_1 h_2 h_3 h_4)).trans ?_
            refine (r_iconst (v := 0) rfl rfl rfl).trans ?_
            refine (r_istore rfl rfl rfl rfl).trans ?_
            exact rfl
        · refine (r_iload_n rfl rfl rfl).trans ?_
          refine (r_bipush (v := 40) rfl rfl rfl).trans ?_
          refine (r_icmp_le rfl rfl rfl).trans ?_
          refine ite_congr rfl (fun h_4 => ?_) (fun h_4 => ?_)
          · refine (r_aload_n rfl rfl rfl).trans ?_
            refine (r_iconst (v := 1) rfl rfl rfl).trans ?_
            exact r_inv (m := 153) (c := 10) rfl rfl rfl rfl rfl rfl rfl rfl
          · refine (r_aload_n rfl rfl rfl).trans ?_
            refine (r_getR (ci := 10) (sl := 21) s_E rfl rfl rfl rfl (by decide) rfl rfl).trans ?_
            refine (r_iload_n rfl rfl rfl).trans ?_
            refine (r_iload_n rfl rfl rfl).trans ?_
            refine (r_iast rfl rfl rfl (by decide) (b3 h_0 h_1 h_2 h_3 h_4)).trans ?_
            refine (r_aload_n rfl rfl rfl).trans ?_
            refine (r_getR (ci := 10) (sl := 22) s_E rfl rfl rfl rfl (by decide) rfl rfl).trans ?_
            refine (r_iload_n rfl rfl rfl).trans ?_
            refine (r_iload_n rfl rfl rfl).trans ?_
            refine (r_if_ne rfl rfl rfl).trans ?_
            refine ite_congr rfl (fun h_5 => ?_) (fun h_5 => ?_)
            · refine (r_iconst (v := 0) rfl rfl rfl).trans ?_
              refine (r_goto rfl rfl).trans ?_
              refine (r_iast rfl rfl rfl (by decide) (b4 h_0 h_1 h_2 h_3 h_4 h_5)).trans ?_
              refine (r_iconst (v := 0) rfl rfl rfl).trans ?_
              refine (r_istore rfl rfl rfl rfl).trans ?_
              exact rfl
            · refine (r_iload_n rfl rfl rfl).trans ?_
              refine (r_iast rfl rfl rfl (by decide) (b5 h_0 h_1 h_2 h_3 h_4 h_5)).trans ?_
              refine (r_iconst (v := 0) rfl rfl rfl).trans ?_
              refine (r_istore rfl rfl rfl rfl).trans ?_
              exact rfl
      · refine (r_iload_n rfl rfl rfl).trans ?_
        refine (r_if_ge rfl rfl rfl).trans ?_
        refine ite_congr rfl (fun h_3 => ?_) (fun h_3 => ?_)
        · refine (r_aload_n rfl rfl rfl).trans ?_
          refine (r_iconst (v := 3) rfl rfl rfl).trans ?_
          exact r_inv (m := 153) (c := 10) rfl rfl rfl rfl rfl rfl rfl rfl
        · refine (r_iload_n rfl rfl rfl).trans ?_
          refine (r_if_eq rfl rfl rfl).trans ?_
          refine ite_congr rfl (fun h_4 => ?_) (fun h_4 => ?_)
          · refine (r_aload_n rfl rfl rfl).trans ?_
            refine (r_getR (ci := 10) (sl := 21) s_E rfl rfl rfl rfl (by decide) rfl rfl).trans ?_
            refine (r_iload_n rfl rfl rfl).trans ?_
            refine (r_iload_n rfl rfl rfl).trans ?_
            refine (r_iast rfl rfl rfl (by decide) (b6 h_0 h_1 h_2 h_3 h_4)).trans ?_
            refine (r_aload_n rfl rfl rfl).trans ?_
            refine (r_getR (ci := 10) (sl := 22) s_E rfl rfl rfl rfl (by decide) rfl rfl).trans ?_
            refine (r_iload_n rfl rfl rfl).trans ?_
            refine (r_iload_n rfl rfl rfl).trans ?_
            refine (r_if_ne rfl rfl rfl).trans ?_
            refine ite_congr rfl (fun h_5 => ?_) (fun h_5 => ?_)
            · refine (r_iconst (v := 0) rfl rfl rfl).trans ?_
              refine (r_goto rfl rfl).trans ?_
              refine (r_iast rfl rfl rfl (by decide) (b7 h_0 h_1 h_2 h_3 h_4 h_5)).trans ?_
              refine (r_iconst (v := 0) rfl rfl rfl).trans ?_
              refine (r_istore rfl rfl rfl rfl).trans ?_
              exact rfl
            · refine (r_iload_n rfl rfl rfl).trans ?_
              refine (r_iast rfl rfl rfl (by decide) (b8 h_0 h_1 h_2 h_3 h_4 h_5)).trans ?_
              refine (r_iconst (v := 0) rfl rfl rfl).trans ?_
              refine (r_istore rfl rfl rfl rfl).trans ?_
              exact rfl
          · refine (r_iload_n rfl rfl rfl).trans ?_
            refine (r_bipush (v := 40) rfl rfl rfl).trans ?_
            refine (r_icmp_le rfl rfl rfl).trans ?_
            refine ite_congr rfl (fun h_5 => ?_) (fun h_5 => ?_)
            · refine (r_aload_n rfl rfl rfl).trans ?_
              refine (r_iconst (v := 1) rfl rfl rfl).trans ?_
              exact r_inv (m := 153) (c := 10) rfl rfl rfl rfl rfl rfl rfl rfl
            · refine (r_aload_n rfl rfl rfl).trans ?_
              refine (r_getR (ci := 10) (sl := 21) s_E rfl rfl rfl rfl (by decide) rfl rfl).trans ?_
              refine (r_iload_n rfl rfl rfl).trans ?_
              refine (r_iload_n rfl rfl rfl).trans ?_
              refine (r_iast rfl rfl rfl (by decide) (b9 h_0 h_1 h_2 h_3 h_4 h_5)).trans ?_
              refine (r_aload_n rfl rfl rfl).trans ?_
              refine (r_getR (ci := 10) (sl := 22) s_E rfl rfl rfl rfl (by decide) rfl rfl).trans ?_
              refine (r_iload_n rfl rfl rfl).trans ?_
              refine (r_iload_n rfl rfl rfl).trans ?_
              refine (r_if_ne rfl rfl rfl).trans ?_
              refine ite_congr rfl (fun h_6 => ?_) (fun h_6 => ?_)
              · refine (r_iconst (v := 0) rfl rfl rfl).trans ?_
                refine (r_goto rfl rfl).trans ?_
                refine (r_iast rfl rfl rfl (by decide) (b10 h_0 h_1 h_2 h_3 h_4 h_5 h_6)).trans ?_
                refine (r_iconst (v := 0) rfl rfl rfl).trans ?_
                refine (r_istore rfl rfl rfl rfl).trans ?_
                exact rfl
              · refine (r_iload_n rfl rfl rfl).trans ?_
                refine (r_iast rfl rfl rfl (by decide) (b11 h_0 h_1 h_2 h_3 h_4 h_5 h_6)).trans ?_
                refine (r_iconst (v := 0) rfl rfl rfl).trans ?_
                refine (r_istore rfl rfl rfl rfl).trans ?_
                exact rfl
    · refine (r_iload_n rfl rfl rfl).trans ?_
      refine (r_bipush (v := 8) rfl rfl rfl).trans ?_
      refine (r_icmp_eq rfl rfl rfl).trans ?_
      refine ite_congr rfl (fun h_2 => ?_) (fun h_2 => ?_)
      · refine (r_iload_n rfl rfl rfl).trans ?_
        refine (r_if_eq rfl rfl rfl).trans ?_
        refine ite_congr rfl (fun h_3 => ?_) (fun h_3 => ?_)
        · refine (r_iload_n rfl rfl rfl).trans ?_
          refine (r_if_eq rfl rfl rfl).trans ?_
          refine ite_congr rfl (fun h_4 => ?_) (fun h_4 => ?_)
          · refine (r_aload_n rfl rfl rfl).trans ?_
            refine (r_getR (ci := 10) (sl := 21) s_E rfl rfl rfl rfl (by decide) rfl rfl).trans ?_
            refine (r_iload_n rfl rfl rfl).trans ?_
            refine (r_iload_n rfl rfl rfl).trans ?_
            refine (r_iast rfl rfl rfl (by decide) (b12 h_0 h_1 h_2 h_3 h_4)).trans ?_
            refine (r_aload_n rfl rfl rfl).trans ?_
            refine (r_getR (ci := 10) (sl := 22) s_E rfl rfl rfl rfl (by decide) rfl rfl).trans ?_
            refine (r_iload_n rfl rfl rfl).trans ?_
            refine (r_iload_n rfl rfl rfl).trans ?_
            refine (r_if_ne rfl rfl rfl).trans ?_
            refine ite_congr rfl (fun h_5 => ?_) (fun h_5 => ?_)
            · refine (r_iconst (v := 0) rfl rfl rfl).trans ?_
              refine (r_goto rfl rfl).trans ?_
              refine (r_iast rfl rfl rfl (by decide) (b13 h_0 h_1 h_2 h_3 h_4 h_5)).trans ?_
              refine (r_iconst (v := 0) rfl rfl rfl).trans ?_
              refine (r_istore rfl rfl rfl rfl).trans ?_
              exact rfl
            · refine (r_iload_n rfl rfl rfl).trans ?_
              refine (r_iast rfl rfl rfl (by decide) (b14 h_0 h_1 h_2 h_3 h_4 h_5)).trans ?_
              refine (r_iconst (v := 0) rfl rfl rfl).trans ?_
              refine (r_istore rfl rfl rfl rfl).trans ?_
              exact rfl
          · refine (r_iload_n rfl rfl rfl).trans ?_
            refine (r_bipush (v := 40) rfl rfl rfl).trans ?_
            refine (r_icmp_le rfl rfl rfl).trans ?_
            refine ite_congr rfl (fun h_5 => ?_) (fun h_5 => ?_)
            · refine (r_aload_n rfl rfl rfl).trans ?_
              refine (r_iconst (v := 1) rfl rfl rfl).trans ?_
              exact r_inv (m := 153) (c := 10) rfl rfl rfl rfl rfl rfl rfl rfl
            · refine (r_aload_n rfl rfl rfl).trans ?_
              refine (r_getR (ci := 10) (sl := 21) s_E rfl rfl rfl rfl (by decide) rfl rfl).trans ?_
              refine (r_iload_n rfl rfl rfl).trans ?_
              refine (r_iload_n rfl rfl rfl).trans ?_
              refine (r_iast rfl rfl rfl (by decide) (b15 h_0 h_1 h_2 h_3 h_4 h_5)).trans ?_
              refine (r_aload_n rfl rfl rfl).trans ?_
              refine (r_getR (ci := 10) (sl := 22) s_E rfl rfl rfl rfl (by decide) rfl rfl).trans ?_
              refine (r_iload_n rfl rfl rfl).trans ?_
              refine (r_iload_n rfl rfl rfl).trans ?_
              refine (r_if_ne rfl rfl rfl).trans ?_
              refine ite_congr rfl (fun h_6 => ?_) (fun h_6 => ?_)
              · refine (r_iconst (v := 0) rfl rfl rfl).trans ?_
                refine (r_goto rfl rfl).trans ?_
                refine (r_iast rfl rfl rfl (by decide) (b16 h_0 h_1 h_2 h_3 h_4 h_5 h_6)).trans ?_
                refine (r_iconst (v := 0) rfl rfl rfl).trans ?_
                refine (r_istore rfl rfl rfl rfl).trans ?_
                exact rfl
              · refine (r_iload_n rfl rfl rfl).trans ?_
                refine (r_iast rfl rfl rfl (by decide) (b17 h_0 h_1 h_2 h_3 h_4 h_5 h_6)).trans ?_
                refine (r_iconst (v := 0) rfl rfl rfl).trans ?_
                refine (r_istore rfl rfl rfl rfl).trans ?_
                exact rfl
        · refine (r_iload_n rfl rfl rfl).trans ?_
          refine (r_if_ge rfl rfl rfl).trans ?_
          refine ite_congr rfl (fun h_4 => ?_) (fun h_4 => ?_)
          · refine (r_aload_n rfl rfl rfl).trans ?_
            refine (r_iconst (v := 3) rfl rfl rfl).trans ?_
            exact r_inv (m := 153) (c := 10) rfl rfl rfl rfl rfl rfl rfl rfl
          · refine (r_iload_n rfl rfl rfl).trans ?_
            refine (r_if_eq rfl rfl rfl).trans ?_
            refine ite_congr rfl (fun h_5 => ?_) (fun h_5 => ?_)
            · refine (r_aload_n rfl rfl rfl).trans ?_
              refine (r_getR (ci := 10) (sl := 21) s_E rfl rfl rfl rfl (by decide) rfl rfl).trans ?_
              refine (r_iload_n rfl rfl rfl).trans ?_
              refine (r_iload_n rfl rfl rfl).trans ?_
              refine (r_iast rfl rfl rfl (by decide) (b18 h_0 h_1 h_2 h_3 h_4 h_5)).trans ?_
              refine (r_aload_n rfl rfl rfl).trans ?_
              refine (r_getR (ci := 10) (sl := 22) s_E rfl rfl rfl rfl (by decide) rfl rfl).trans ?_
              refine (r_iload_n rfl rfl rfl).trans ?_
              refine (r_iload_n rfl rfl rfl).trans ?_
              refine (r_if_ne rfl rfl rfl).trans ?_
              refine ite_congr rfl (fun h_6 => ?_) (fun h_6 => ?_)
              · refine (r_iconst (v := 0) rfl rfl rfl).trans ?_
                refine (r_goto rfl rfl).trans ?_
                refine (r_iast rfl rfl rfl (by decide) (b19 h_0 h_1 h_2 h_3 h_4 h_5 h_6)).trans ?_
                refine (r_iconst (v := 0) rfl rfl rfl).trans ?_
                refine (r_istore rfl rfl rfl rfl).trans ?_
                exact rfl
              · refine (r_iload_n rfl rfl rfl).trans ?_
                refine (r_iast rfl rfl rfl (by decide) (b20 h_0 h_1 h_2 h_3 h_4 h_5 h_6)).trans ?_
                refine (r_iconst (v := 0) rfl rfl rfl).trans ?_
                refine (r_istore rfl rfl rfl rfl).trans ?_
                exact rfl
            · refine (r_iload_n rfl rfl rfl).trans ?_
              refine (r_bipush (v := 40) rfl rfl rfl).trans ?_
              refine (r_icmp_le rfl rfl rfl).trans ?_
              refine ite_congr rfl (fun h_6 => ?_) (fun h_6 => ?_)
              · refine (r_aload_n rfl rfl rfl).trans ?_
                refine (r_iconst (v := 1) rfl rfl rfl).trans ?_
                exact r_inv (m := 153) (c := 10) rfl rfl rfl rfl rfl rfl rfl rfl
              · refine (r_aload_n rfl rfl rfl).trans ?_
                refine (r_getR (ci := 10) (sl := 21) s_E rfl rfl rfl rfl (by decide) rfl rfl).trans ?_
                refine (r_iload_n rfl rfl rfl).trans ?_
                refine (r_iload_n rfl rfl rfl).trans ?_
                refine (r_iast rfl rfl rfl (by decide) (b21 h_0 h_1 h_2 h_3 h_4 h_5 h_6)).trans ?_
                refine (r_aload_n rfl rfl rfl).trans ?_
                refine (r_getR (ci := 10) (sl := 22) s_E rfl rfl rfl rfl (by decide) rfl rfl).trans ?_
                refine (r_iload_n rfl rfl rfl).trans ?_
                refine (r_iload_n rfl rfl rfl).trans ?_
                refine (r_if_ne rfl rfl rfl).trans ?_
                refine ite_congr rfl (fun h_7 => ?_) (fun h_7 => ?_)
                · refine (r_iconst (v := 0) rfl rfl rfl).trans ?_
                  refine (r_goto rfl rfl).trans ?_
                  refine (r_iast rfl rfl rfl (by decide) (b22 h_0 h_1 h_2 h_3 h_4 h_5 h_6 h_7)).trans ?_
                  refine (r_iconst (v := 0) rfl rfl rfl).trans ?_
                  refine (r_istore rfl rfl rfl rfl).trans ?_
                  exact rfl
                · refine (r_iload_n rfl rfl rfl).trans ?_
                  refine (r_iast rfl rfl rfl (by decide) (b23 h_0 h_1 h_2 h_3 h_4 h_5 h_6 h_7)).trans ?_
                  refine (r_iconst (v := 0) rfl rfl rfl).trans ?_
                  refine (r_istore rfl rfl rfl rfl).trans ?_
                  exact rfl
      · refine (r_iload_n rfl rfl rfl).trans ?_
        refine (r_bipush (v := 16) rfl rfl rfl).trans ?_
        refine (r_icmp_eq rfl rfl rfl).trans ?_
        refine ite_congr rfl (fun h_3 => ?_) (fun h_3 => ?_)
        · refine (r_iload_n rfl rfl rfl).trans ?_
          refine (r_if_eq rfl rfl rfl).trans ?_
          refine ite_congr rfl (fun h_4 => ?_) (fun h_4 => ?_)
          · refine (r_iload_n rfl rfl rfl).trans ?_
            refine (r_if_eq rfl rfl rfl).trans ?_
            refine ite_congr rfl (fun h_5 => ?_) (fun h_5 => ?_)
            · refine (r_aload_n rfl rfl rfl).trans ?_
              refine (r_getR (ci := 10) (sl := 21) s_E rfl rfl rfl rfl (by decide) rfl rfl).trans ?_
              refine (r_iload_n rfl rfl rfl).trans ?_
              refine (r_iload_n rfl rfl rfl).trans ?_
              refine (r_iast rfl rfl rfl (by decide) (b24 h_0 h_1 h_2 h_3 h_4 h_5)).trans ?_
              refine (r_aload_n rfl rfl rfl).trans ?_
              refine (r_getR (ci := 10) (sl := 22) s_E rfl rfl rfl rfl (by decide) rfl rfl).trans ?_
              refine (r_iload_n rfl rfl rfl).trans ?_
              refine (r_iload_n rfl rfl rfl).trans ?_
              refine (r_if_ne rfl rfl rfl).trans ?_
              refine ite_congr rfl (fun h_6 => ?_) (fun h_6 => ?_)
              · refine (r_iconst (v := 0) rfl rfl rfl).trans ?_
                refine (r_goto rfl rfl).trans ?_
                refine (r_iast rfl rfl rfl (by decide) (b25 h_0 h_1 h_2 h_3 h_4 h_5 h_6)).trans ?_
                refine (r_iconst (v := 0) rfl rfl rfl).trans ?_
                refine (r_istore rfl rfl rfl rfl).trans ?_
                exact rfl
              · refine (r_iload_n rfl rfl rfl).trans ?_
                refine (r_iast rfl rfl rfl (by decide) (b26 h_0 h_1 h_2 h_3 h_4 h_5 h_6)).trans ?_
                refine (r_iconst (v := 0) rfl rfl rfl).trans ?_
                refine (r_istore rfl rfl rfl rfl).trans ?_
                exact rfl
            · refine (r_iload_n rfl rfl rfl).trans ?_
              refine (r_bipush (v := 40) rfl rfl rfl).trans ?_
              refine (r_icmp_le rfl rfl rfl).trans ?_
              refine ite_congr rfl (fun h_6 => ?_) (fun h_6 => ?_)
              · refine (r_aload_n rfl rfl rfl).trans ?_
                refine (r_iconst (v := 1) rfl rfl rfl).trans ?_
                exact r_inv (m := 153) (c := 10) rfl rfl rfl rfl rfl rfl rfl rfl
              · refine (r_aload_n rfl rfl rfl).trans ?_
                refine (r_getR (ci := 10) (sl := 21) s_E rfl rfl rfl rfl (by decide) rfl rfl).trans ?_
                refine (r_iload_n rfl rfl rfl).trans ?_
                refine (r_iload_n rfl rfl rfl).trans ?_
                refine (r_iast rfl rfl rfl (by decide) (b27 h_0 h_1 h_2 h_3 h_4 h_5 h_6)).trans ?_
                refine (r_aload_n rfl rfl rfl).trans ?_
                refine (r_getR (ci := 10) (sl := 22) s_E rfl rfl rfl rfl (by decide) rfl rfl).trans ?_
                refine (r_iload_n rfl rfl rfl).trans ?_
                refine (r_iload_n rfl rfl rfl).trans ?_
                refine (r_if_ne rfl rfl rfl).trans ?_
                refine ite_congr rfl (fun h_7 => ?_) (fun h_7 => ?_)
                · refine (r_iconst (v := 0) rfl rfl rfl).trans ?_
                  refine (r_goto rfl rfl).trans ?_
                  refine (r_iast rfl rfl rfl (by decide) (b28 h_0 h_1 h_2 h_3 h_4 h_5 h_6 h_7)).trans ?_
                  refine (r_iconst (v := 0) rfl rfl rfl).trans ?_
                  refine (r_istore rfl rfl rfl rfl).trans ?_
                  exact rfl
                · refine (r_iload_n rfl rfl rfl).trans ?_
                  refine (r_iast rfl rfl rfl (by decide) (b29 h_0 h_1 h_2 h_3 h_4 h_5 h_6 h_7)).trans ?_
                  refine (r_iconst (v := 0) rfl rfl rfl).trans ?_
                  refine (r_istore rfl rfl rfl rfl).trans ?_
                  exact rfl
          · refine (r_iload_n rfl rfl rfl).trans ?_
            refine (r_if_ge rfl rfl rfl).trans ?_
            refine ite_congr rfl (fun h_5 => ?_) (fun h_5 => ?_)
            · refine (r_aload_n rfl rfl rfl).trans ?_
              refine (r_iconst (v := 3) rfl rfl rfl).trans ?_
              exact r_inv (m := 153) (c := 10) rfl rfl rfl rfl rfl rfl rfl rfl
            · refine (r_iload_n rfl rfl rfl).trans ?_
              refine (r_if_eq rfl rfl rfl).trans ?_
              refine ite_congr rfl (fun h_6 => ?_) (fun h_6 => ?_)
              · refine (r_aload_n rfl rfl rfl).trans ?_
                refine (r_getR (ci := 10) (sl := 21) s_E rfl rfl rfl rfl (by decide) rfl rfl).trans ?_
                refine (r_iload_n rfl rfl rfl).trans ?_
                refine (r_iload_n rfl rfl rfl).trans ?_
                refine (r_iast rfl rfl rfl (by decide) (b30 h_0 h_1 h_2 h_3 h_4 h_5 h_6)).trans ?_
                refine (r_aload_n rfl rfl rfl).trans ?_
                refine (r_getR (ci := 10) (sl := 22) s_E rfl rfl rfl rfl (by decide) rfl rfl).trans ?_
                refine (r_iload_n rfl rfl rfl).trans ?_
                refine (r_iload_n rfl rfl rfl).trans ?_
                refine (r_if_ne rfl rfl rfl).trans ?_
                refine ite_congr rfl (fun h_7 => ?_) (fun h_7 => ?_)
                · refine (r_iconst (v := 0) rfl rfl rfl).trans ?_
                  refine (r_goto rfl rfl).trans ?_
                  refine (r_iast rfl rfl rfl (by decide) (b31 h_0 h_1 h_2 h_3 h_4 h_5 h_6 h_7)).trans ?_
                  refine (r_iconst (v := 0) rfl rfl rfl).trans ?_
                  refine (r_istore rfl rfl rfl rfl).trans ?_
                  exact rfl
                · refine (r_iload_n rfl rfl rfl).trans ?_
                  refine (r_iast rfl rfl rfl (by decide) (b32 h_0 h_1 h_2 h_3 h_4 h_5 h_6 h_7)).trans ?_
                  refine (r_iconst (v := 0) rfl rfl rfl).trans ?_
                  refine (r_istore rfl rfl rfl rfl).trans ?_
                  exact rfl
              · refine (r_iload_n rfl rfl rfl).trans ?_
                refine (r_bipush (v := 40) rfl rfl rfl).trans ?_
                refine (r_icmp_le rfl rfl rfl).trans ?_
                refine ite_congr rfl (fun h_7 => ?_) (fun h_7 => ?_)
                · refine (r_aload_n rfl rfl rfl).trans ?_
                  refine (r_iconst (v := 1) rfl rfl rfl).trans ?_
                  exact r_inv (m := 153) (c := 10) rfl rfl rfl rfl rfl rfl rfl rfl
                · refine (r_aload_n rfl rfl rfl).trans ?_
                  refine (r_getR (ci := 10) (sl := 21) s_E rfl rfl rfl rfl (by decide) rfl rfl).trans ?_
                  refine (r_iload_n rfl rfl rfl).trans ?_
                  refine (r_iload_n rfl rfl rfl).trans ?_
                  refine (r_iast rfl rfl rfl (by decide) (b33 h_0 h_1 h_2 h_3 h_4 h_5 h_6 h_7)).trans ?_
                  refine (r_aload_n rfl rfl rfl).trans ?_
                  refine (r_getR (ci := 10) (sl := 22) s_E rfl rfl rfl rfl (by decide) rfl rfl).trans ?_
                  refine (r_iload_n rfl rfl rfl).trans ?_
                  refine (r_iload_n rfl rfl rfl).trans ?_
                  refine (r_if_ne rfl rfl rfl).trans ?_
                  refine ite_congr rfl (fun h_8 => ?_) (fun h_8 => ?_)
                  · refine (r_iconst (v := 0) rfl rfl rfl).trans ?_
                    refine (r_goto rfl rfl).trans ?_
                    refine (r_iast rfl rfl rfl (by decide) (b34 h_0 h_1 h_2 h_3 h_4 h_5 h_6 h_7 h_8)).trans ?_
                    refine (r_iconst (v := 0) rfl rfl rfl).trans ?_
                    refine (r_istore rfl rfl rfl rfl).trans ?_
                    exact rfl
                  · refine (r_iload_n rfl rfl rfl).trans ?_
                    refine (r_iast rfl rfl rfl (by decide) (b35 h_0 h_1 h_2 h_3 h_4 h_5 h_6 h_7 h_8)).trans ?_
                    refine (r_iconst (v := 0) rfl rfl rfl).trans ?_
                    refine (r_istore rfl rfl rfl rfl).trans ?_
                    exact rfl
        · refine (r_iload_n rfl rfl rfl).trans ?_
          refine (r_bipush (v := 32) rfl rfl rfl).trans ?_
          refine (r_icmp_eq rfl rfl rfl).trans ?_
          refine ite_congr rfl (fun h_4 => ?_) (fun h_4 => ?_)
          · refine (r_iload_n rfl rfl rfl).trans ?_
            refine (r_if_eq rfl rfl rfl).trans ?_
            refine ite_congr rfl (fun h_5 => ?_) (fun h_5 => ?_)
            · refine (r_iload_n rfl rfl rfl).trans ?_
              refine (r_if_eq rfl rfl rfl).trans ?_
              refine ite_congr rfl (fun h_6 => ?_) (fun h_6 => ?_)
              · refine (r_aload_n rfl rfl rfl).trans ?_
                refine (r_getR (ci := 10) (sl := 21) s_E rfl rfl rfl rfl (by decide) rfl rfl).trans ?_
                refine (r_iload_n rfl rfl rfl).trans ?_
                refine (r_iload_n rfl rfl rfl).trans ?_
                refine (r_iast rfl rfl rfl (by decide) (b36 h_0 h_1 h_2 h_3 h_4 h_5 h_6)).trans ?_
                refine (r_aload_n rfl rfl rfl).trans ?_
                refine (r_getR (ci := 10) (sl := 22) s_E rfl rfl rfl rfl (by decide) rfl rfl).trans ?_
                refine (r_iload_n rfl rfl rfl).trans ?_
                refine (r_iload_n rfl rfl rfl).trans ?_
                refine (r_if_ne rfl rfl rfl).trans ?_
                refine ite_congr rfl (fun h_7 => ?_) (fun h_7 => ?_)
                · refine (r_iconst (v := 0) rfl rfl rfl).trans ?_
                  refine (r_goto rfl rfl).trans ?_
                  refine (r_iast rfl rfl rfl (by decide) (b37 h_0 h_1 h_2 h_3 h_4 h_5 h_6 h_7)).trans ?_
                  refine (r_iconst (v := 0) rfl rfl rfl).trans ?_
                  refine (r_istore rfl rfl rfl rfl).trans ?_
                  exact rfl
                · refine (r_iload_n rfl rfl rfl).trans ?_
                  refine (r_iast rfl rfl rfl (by decide) (b38 h_0 h_1 h_2 h_3 h_4 h_5 h_6 h_7)).trans ?_
                  refine (r_iconst (v := 0) rfl rfl rfl).trans ?_
                  refine (r_istore rfl rfl rfl rfl).trans ?_
                  exact rfl
              · refine (r_iload_n rfl rfl rfl).trans ?_
                refine (r_bipush (v := 40) rfl rfl rfl).trans ?_
                refine (r_icmp_le rfl rfl rfl).trans ?_
                refine ite_congr rfl (fun h_7 => ?_) (fun h_7 => ?_)
                · refine (r_aload_n rfl rfl rfl).trans ?_
                  refine (r_iconst (v := 1) rfl rfl rfl).trans ?_
                  exact r_inv (m := 153) (c := 10) rfl rfl rfl rfl rfl rfl rfl rfl
                · refine (r_aload_n rfl rfl rfl).trans ?_
                  refine (r_getR (ci := 10) (sl := 21) s_E rfl rfl rfl rfl (by decide) rfl rfl).trans ?_
                  refine (r_iload_n rfl rfl rfl).trans ?_
                  refine (r_iload_n rfl rfl rfl).trans ?_
                  refine (r_iast rfl rfl rfl (by decide) (b39 h_0 h_1 h_2 h_3 h_4 h_5 h_6 h_7)).trans ?_
                  refine (r_aload_n rfl rfl rfl).trans ?_
                  refine (r_getR (ci := 10) (sl := 22) s_E rfl rfl rfl rfl (by decide) rfl rfl).trans ?_
                  refine (r_iload_n rfl rfl rfl).trans ?_
                  refine (r_iload_n rfl rfl rfl).trans ?_
                  refine (r_if_ne rfl rfl rfl).trans ?_
                  refine ite_congr rfl (fun h_8 => ?_) (fun h_8 => ?_)
                  · refine (r_iconst (v := 0) rfl rfl rfl).trans ?_
                    refine (r_goto rfl rfl).trans ?_
                    refine (r_iast rfl rfl rfl (by decide) (b40 h_0 h_1 h_2 h_3 h_4 h_5 h_6 h_7 h_8)).trans ?_
                    refine (r_iconst (v := 0) rfl rfl rfl).trans ?_
                    refine (r_istore rfl rfl rfl rfl).trans ?_
                    exact rfl
                  · refine (r_iload_n rfl rfl rfl).trans ?_
                    refine (r_iast rfl rfl rfl (by decide) (b41 h_0 h_1 h_2 h_3 h_4 h_5 h_6 h_7 h_8)).trans ?_
                    refine (r_iconst (v := 0) rfl rfl rfl).trans ?_
                    refine (r_istore rfl rfl rfl rfl).trans ?_
                    exact rfl
            · refine (r_iload_n rfl rfl rfl).trans ?_
              refine (r_if_ge rfl rfl rfl).trans ?_
              refine ite_congr rfl (fun h_6 => ?_) (fun h_6 => ?_)
              · refine (r_aload_n rfl rfl rfl).trans ?_
                refine (r_iconst (v := 3) rfl rfl rfl).trans ?_
                exact r_inv (m := 153) (c := 10) rfl rfl rfl rfl rfl rfl rfl rfl
              · refine (r_iload_n rfl rfl rfl).trans ?_
                refine (r_if_eq rfl rfl rfl).trans ?_
                refine ite_congr rfl (fun h_7 => ?_) (fun h_7 => ?_)
                · refine (r_aload_n rfl rfl rfl).trans ?_
                  refine (r_getR (ci := 10) (sl := 21) s_E rfl rfl rfl rfl (by decide) rfl rfl).trans ?_
                  refine (r_iload_n rfl rfl rfl).trans ?_
                  refine (r_iload_n rfl rfl rfl).trans ?_
                  refine (r_iast rfl rfl rfl (by decide) (b42 h_0 h_1 h_2 h_3 h_4 h_5 h_6 h_7)).trans ?_
                  refine (r_aload_n rfl rfl rfl).trans ?_
                  refine (r_getR (ci := 10) (sl := 22) s_E rfl rfl rfl rfl (by decide) rfl rfl).trans ?_
                  refine (r_iload_n rfl rfl rfl).trans ?_
                  refine (r_iload_n rfl rfl rfl).trans ?_
                  refine (r_if_ne rfl rfl rfl).trans ?_
                  refine ite_congr rfl (fun h_8 => ?_) (fun h_8 => ?_)
                  · refine (r_iconst (v := 0) rfl rfl rfl).trans ?_
                    refine (r_goto rfl rfl).trans ?_
                    refine (r_iast rfl rfl rfl (by decide) (b43 h_0 h_1 h_2 h_3 h_4 h_5 h_6 h_7 h_8)).trans ?_
                    refine (r_iconst (v := 0) rfl rfl rfl).trans ?_
                    refine (r_istore rfl rfl rfl rfl).trans ?_
                    exact rfl
                  · refine (r_iload_n rfl rfl rfl).trans ?_
                    refine (r_iast rfl rfl rfl (by decide) (b44 h_0 h_1 h_2 h_3 h_4 h_5 h_6 h_7 h_8)).trans ?_
                    refine (r_iconst (v := 0) rfl rfl rfl).trans ?_
                    refine (r_istore rfl rfl rfl rfl).trans ?_
                    exact rfl
                · refine (r_iload_n rfl rfl rfl).trans ?_
                  refine (r_bipush (v := 40) rfl rfl rfl).trans ?_
                  refine (r_icmp_le rfl rfl rfl).trans ?_
                  refine ite_congr rfl (fun h_8 => ?_) (fun h_8 => ?_)
                  · refine (r_aload_n rfl rfl rfl).trans ?_
                    refine (r_iconst (v := 1) rfl rfl rfl).trans ?_
                    exact r_inv (m := 153) (c := 10) rfl rfl rfl rfl rfl rfl rfl rfl
                  · refine (r_aload_n rfl rfl rfl).trans ?_
                    refine (r_getR (ci := 10) (sl := 21) s_E rfl rfl rfl rfl (by decide) rfl rfl).trans ?_
                    refine (r_iload_n rfl rfl rfl).trans ?_
                    refine (r_iload_n rfl rfl rfl).trans ?_
                    refine (r_iast rfl rfl rfl (by decide) (b45 h_0 h_1 h_2 h_3 h_4 h_5 h_6 h_7 h_8)).trans ?_
                    refine (r_aload_n rfl rfl rfl).trans ?_
                    refine (r_getR (ci := 10) (sl := 22) s_E rfl rfl rfl rfl (by decide) rfl rfl).trans ?_
                    refine (r_iload_n rfl rfl rfl).trans ?_
                    refine (r_iload_n rfl rfl rfl).trans ?_
                    refine (r_if_ne rfl rfl rfl).trans ?_
                    refine ite_congr rfl (fun h_9 => ?_) (fun h_9 => ?_)
                    · refine (r_iconst (v := 0) rfl rfl rfl).trans ?_
                      refine (r_goto rfl rfl).trans ?_
                      refine (r_iast rfl rfl rfl (by decide) (b46 h_0 h_1 h_2 h_3 h_4 h_5 h_6 h_7 h_8 h_9)).trans ?_
                      refine (r_iconst (v := 0) rfl rfl rfl).trans ?_
                      refine (r_istore rfl rfl rfl rfl).trans ?_
                      exact rfl
                    · refine (r_iload_n rfl rfl rfl).trans ?_
                      refine (r_iast rfl rfl rfl (by decide) (b47 h_0 h_1 h_2 h_3 h_4 h_5 h_6 h_7 h_8 h_9)).trans ?_
                      refine (r_iconst (v := 0) rfl rfl rfl).trans ?_
                      refine (r_istore rfl rfl rfl rfl).trans ?_
                      exact rfl
          · refine (r_aload_n rfl rfl rfl).trans ?_
            refine (r_iconst (v := 1) rfl rfl rfl).trans ?_
            exact r_inv (m := 153) (c := 10) rfl rfl rfl rfl rfl rfl rfl rfl

theorem sg_X10_sheet_34 {d : Nat} {E : pEv} {ro : Nat → Nat → Int32} {Q : Option Value → pH → Prop} (s_E : oE E) {x1 : Int32} {x2 : Int32} {x3 : Int32} {v4 : Value} {xs0 : Int32} : wG d 234 (34, [.ref 101, .int x1, .int x2, .int x3, v4], [.int xs0], mkH E ro) Q = Q (some (.int xs0)) (mkH E ro) := by
  exact r_iret rfl rfl

theorem sg_X10_sheet_48 {d : Nat} {E : pEv} {ro : Nat → Nat → Int32} {Q : Option Value → pH → Prop} (s_E : oE E) {x1 : Int32} {x2 : Int32} {x3 : Int32} {v4 : Value} {xs0 : Int32} : wG d 234 (48, [.ref 101, .int x1, .int x2, .int x3, v4], [.int xs0], mkH E ro) Q = Q (some (.int xs0)) (mkH E ro) := by
  exact r_iret rfl rfl

theorem sg_X10_sheet_64 {d : Nat} {E : pEv} {ro : Nat → Nat → Int32} {Q : Option Value → pH → Prop} (s_E : oE E) {x1 : Int32} {x2 : Int32} {x3 : Int32} {v4 : Value} {xs0 : Int32} : wG d 234 (64, [.ref 101, .int x1, .int x2, .int x3, v4], [.int xs0], mkH E ro) Q = Q (some (.int xs0)) (mkH E ro) := by
  exact r_iret rfl rfl

theorem sg_X10_sheet_90 {d : Nat} {E : pEv} {ro : Nat → Nat → Int32} {Q : Option Value → pH → Prop} (s_E : oE E) {x1 : Int32} {x2 : Int32} {x3 : Int32} {x4 : Int32} (b0 : (x4 < 40) → (¬ ((40 * x1) + x4) < 0 ∧ ((40 * x1) + x4).toNatClampNeg < 160)) : wG d 234 (90, [.ref 101, .int x1, .int x2, .int x3, .int x4], [], mkH E ro) Q = (if x4 < 40 then wG d 234 (90, [.ref 101, .int x1, .int x2, .int x3, .int (x4 + 1)], [], mkH E (uI ro 114 ((40 * x1) + x4).toNatClampNeg 0)) Q else Q (some (.int 1)) (mkH E ro)) := by
  refine (r_iload rfl rfl rfl).trans ?_
  refine (r_bipush (v := 40) rfl rfl rfl).trans ?_
  refine (r_icmp_ge rfl rfl rfl).trans ?_
  refine ite_congr rfl (fun h_0 => ?_) (fun h_0 => ?_)
  · refine (r_aload_n rfl rfl rfl).trans ?_
    refine (r_getR (ci := 10) (sl := 23) s_E rfl rfl rfl rfl (by decide) rfl rfl).trans ?_
    refine (r_bipush (v := 40) rfl rfl rfl).trans ?_
    refine (r_iload_n rfl rfl rfl).trans ?_
    refine (r_imul rfl rfl).trans ?_
    refine (r_iload rfl rfl rfl).trans ?_
    refine (r_iadd rfl rfl).trans ?_
    refine (r_iconst (v := 0) rfl rfl rfl).trans ?_
    refine (r_iast rfl rfl rfl (by decide) (b0 h_0)).trans ?_
    refine (r_iinc (y := 1) rfl rfl rfl rfl rfl rfl).trans ?_
    refine (r_goto rfl rfl).trans ?_
    exact rfl
  · refine (r_iconst (v := 1) rfl rfl rfl).trans ?_
    exact r_iret rfl rfl

theorem en_X10_put {d : Nat} {E : pEv} {ro : Nat → Nat → Int32} {Q : Option Value → pH → Prop} (s_E : oE E) {x1 : Int32} {x2 : Int32} {x3 : Int32} : wX (d + 1) 235 [.ref 101, .int x1, .int x2, .int x3] (mkH E ro) Q = wX d 233 [.int x1] (mkH E ro) (fun v h' => wG d 235 (4, [.ref 101, .int x1, .int x2, .int x3], pv v [], h') Q) := by
  refine (wX_in rfl (by decide)).trans ?_
  show wG d 235 (0, [.ref 101, .int x1, .int x2, .int x3], [], mkH E ro) Q = _
  refine (r_iload_n rfl rfl rfl).trans ?_
  exact r_ins (m := 233) rfl rfl rfl rfl rfl rfl

theorem sg_X10_put_4 {d : Nat} {E : pEv} {ro : Nat → Nat → Int32} {Q : Option Value → pH → Prop} (s_E : oE E) {x1 : Int32} {x2 : Int32} {x3 : Int32} {xs0 : Int32} (b0 : (¬ xs0 = 0) → (¬ x1 < 0 ∧ x1.toNatClampNeg < 4)) (b1 : (¬ xs0 = 0) → (¬ (ro 112 x1.toNatClampNeg) = 0) → (¬ x1 < 0 ∧ x1.toNatClampNeg < 4)) : wG d 235 (4, [.ref 101, .int x1, .int x2, .int x3], [.int xs0], mkH E ro) Q = (if xs0 = 0 then wX d 153 [.ref 101, .int 1] (mkH E ro) (fun v h' => wG d 235 (12, [.ref 101, .int x1, .int x2, .int x3], pv v [], h') Q) else (if (ro 112 x1.toNatClampNeg) = 0 then wX d 153 [.ref 101, .int 2] (mkH E ro) (fun v h' => wG d 235 (27, [.ref 101, .int x1, .int x2, .int x3], pv v [], h') Q) else wX d 154 [.long x2.toInt64, .long 0, .long (((ro 113 x1.toNatClampNeg) - 1).toInt64)] (mkH E ro) (fun v h' => wG d 235 (43, [.ref 101, .int x1, .int x2, .int x3], pv v [], h') Q))) := by
  refine (r_if_ne rfl rfl rfl).trans ?_
  refine ite_congr rfl (fun h_0 => ?_) (fun h_0 => ?_)
  · refine (r_aload_n rfl rfl rfl).trans ?_
    refine (r_iconst (v := 1) rfl rfl rfl).trans ?_
    exact r_inv (m := 153) (c := 10) rfl rfl rfl rfl rfl rfl rfl rfl
  · refine (r_aload_n rfl rfl rfl).trans ?_
    refine (r_getR (ci := 10) (sl := 21) s_E rfl rfl rfl rfl (by decide) rfl rfl).trans ?_
    refine (r_iload_n rfl rfl rfl).trans ?_
    refine (r_iald rfl rfl rfl (by decide) (b0 h_0)).trans ?_
    refine (r_if_ne rfl rfl rfl).trans ?_
    refine ite_congr rfl (fun h_1 => ?_) (fun h_1 => ?_)
    · refine (r_aload_n rfl rfl rfl).trans ?_
      refine (r_iconst (v := 2) rfl rfl rfl).trans ?_
      exact r_inv (m := 153) (c := 10) rfl rfl rfl rfl rfl rfl rfl rfl
    · refine (r_iload_n rfl rfl rfl).trans ?_
      refine (r_i2l rfl rfl).trans ?_
      refine (r_lconst (w := 0) rfl rfl rfl).trans ?_
      refine (r_aload_n rfl rfl rfl).trans ?_
      refine (r_getR (ci := 10) (sl := 22) s_E rfl rfl rfl rfl (by decide) rfl rfl).trans ?_
      refine (r_iload_n rfl rfl rfl).trans ?_
      refine (r_iald rfl rfl rfl (by decide) (b1 h_0 h_1)).trans ?_
      refine (r_iconst (v := 1) rfl rfl rfl).trans ?_
      refine (r_isub rfl rfl).trans ?_
      refine (r_i2l rfl rfl).trans ?_
      exact r_ins (m := 154) rfl rfl rfl rfl rfl rfl

theorem sg_X10_put_12 {d : Nat} {E : pEv} {ro : Nat → Nat → Int32} {Q : Option Value → pH → Prop} (s_E : oE E) {x1 : Int32} {x2 : Int32} {x3 : Int32} {xs0 : Int32} : wG d 235 (12, [.ref 101, .int x1, .int x2, .int x3], [.int xs0], mkH E ro) Q = Q (some (.int xs0)) (mkH E ro) := by
  exact r_iret rfl rfl

theorem sg_X10_put_27 {d : Nat} {E : pEv} {ro : Nat → Nat → Int32} {Q : Option Value → pH → Prop} (s_E : oE E) {x1 : Int32} {x2 : Int32} {x3 : Int32} {xs0 : Int32} : wG d 235 (27, [.ref 101, .int x1, .int x2, .int x3], [.int xs0], mkH E ro) Q = Q (some (.int xs0)) (mkH E ro) := by
  exact r_iret rfl rfl

theorem sg_X10_put_43 {d : Nat} {E : pEv} {ro : Nat → Nat → Int32} {Q : Option Value → pH → Prop} (s_E : oE E) {x1 : Int32} {x2 : Int32} {x3 : Int32} {xs0 : Int32} (b0 : (¬ xs0 = 0) → (¬ x1 < 0 ∧ x1.toNatClampNeg < 4)) (b1 : (¬ xs0 = 0) → ((ro 112 x1.toNatClampNeg) = 8) → (¬ ((40 * x1) + x2) < 0 ∧ ((40 * x1) + x2).toNatClampNeg < 160)) (b2 : (¬ xs0 = 0) → (¬ (ro 112 x1.toNatClampNeg) = 8) → (¬ x1 < 0 ∧ x1.toNatClampNeg < 4)) (b3 : (¬ xs0 = 0) → (¬ (ro 112 x1.toNatClampNeg) = 8) → ((ro 112 x1.toNatClampNeg) = 16) → (¬ ((40 * x1) + x2) < 0 ∧ ((40 * x1) + x2).toNatClampNeg < 160)) (b4 : (¬ xs0 = 0) → (¬ (ro 112 x1.toNatClampNeg) = 8) → (¬ (ro 112 x1.toNatClampNeg) = 16) → (¬ ((40 * x1) + x2) < 0 ∧ ((40 * x1) + x2).toNatClampNeg < 160)) : wG d 235 (43, [.ref 101, .int x1, .int x2, .int x3], [.int xs0], mkH E ro) Q = (if xs0 = 0 then wX d 153 [.ref 101, .int 1] (mkH E ro) (fun v h' => wG d 235 (51, [.ref 101, .int x1, .int x2, .int x3], pv v [], h') Q) else (if (ro 112 x1.toNatClampNeg) = 8 then Q (some (.int 1)) (mkH E (uI ro 114 ((40 * x1) + x2).toNatClampNeg x3.toInt8.toInt32)) else (if (ro 112 x1.toNatClampNeg) = 16 then Q (some (.int 1)) (mkH E (uI ro 114 ((40 * x1) + x2).toNatClampNeg x3.toInt16.toInt32)) else Q (some (.int 1)) (mkH E (uI ro 114 ((40 * x1) + x2).toNatClampNeg x3))))) := by
  refine (r_if_ne rfl rfl rfl).trans ?_
  refine ite_congr rfl (fun h_0 => ?_) (fun h_0 => ?_)
  · refine (r_aload_n rfl rfl rfl).trans ?_
    refine (r_iconst (v := 1) rfl rfl rfl).trans ?_
    exact r_inv (m := 153) (c := 10) rfl rfl rfl rfl rfl rfl rfl rfl
  · refine (r_aload_n rfl rfl rfl).trans ?_
    refine (r_getR (ci := 10) (sl := 23) s_E rfl rfl rfl rfl (by decide) rfl rfl).trans ?_
    refine (r_bipush (v := 40) rfl rfl rfl).trans ?_
    refine (r_iload_n rfl rfl rfl).trans ?_
    refine (r_imul rfl rfl).trans ?_
    refine (r_iload_n rfl rfl rfl).trans ?_
    refine (r_iadd rfl rfl).trans ?_
    refine (r_aload_n rfl rfl rfl).trans ?_
    refine (r_getR (ci := 10) (sl := 21) s_E rfl rfl rfl rfl (by decide) rfl rfl).trans ?_
    refine (r_iload_n rfl rfl rfl).trans ?_
    refine (r_iald rfl rfl rfl (by decide) (b0 h_0)).trans ?_
    refine (r_bipush (v := 8) rfl rfl rfl).trans ?_
    refine (r_icmp_ne rfl rfl rfl).trans ?_
    refine ite_congr rfl (fun h_1 => ?_) (fun h_1 => ?_)
    · refine (r_iload_n rfl rfl rfl).trans ?_
      refine (r_i2b rfl rfl).trans ?_
      refine (r_goto rfl rfl).trans ?_
      refine (r_iast rfl rfl rfl (by decide) (b1 h_0 h_1)).trans ?_
      refine (r_iconst (v := 1) rfl rfl rfl).trans ?_
      exact r_iret rfl rfl
    · refine (r_aload_n rfl rfl rfl).trans ?_
      refine (r_getR (ci := 10) (sl := 21) s_E rfl rfl rfl rfl (by decide) rfl rfl).trans ?_
      refine (r_iload_n rfl rfl rfl).trans ?_
      refine (r_iald rfl rfl rfl (by decide) (b2 h_0 h_1)).trans ?_
      refine (r_bipush (v := 16) rfl rfl rfl).trans ?_
      refine (r_icmp_ne rfl rfl rfl).trans ?_
      refine ite_congr rfl (fun h_2 => ?_) (fun h_2 => ?_)
      · refine (r_iload_n rfl rfl rfl).trans ?_
        refine (r_i2s rfl rfl).trans ?_
        refine (r_goto rfl rfl).trans ?_
        refine (r_iast rfl rfl rfl (by decide) (b3 h_0 h_1 h_2)).trans ?_
        refine (r_iconst (v := 1) rfl rfl rfl).trans ?_
        exact r_iret rfl rfl
      · refine (r_iload_n rfl rfl rfl).trans ?_
        refine (r_iast rfl rfl rfl (by decide) (b4 h_0 h_1 h_2)).trans ?_
        refine (r_iconst (v := 1) rfl rfl rfl).trans ?_
        exact r_iret rfl rfl

theorem sg_X10_put_51 {d : Nat} {E : pEv} {ro : Nat → Nat → Int32} {Q : Option Value → pH → Prop} (s_E : oE E) {x1 : Int32} {x2 : Int32} {x3 : Int32} {xs0 : Int32} : wG d 235 (51, [.ref 101, .int x1, .int x2, .int x3], [.int xs0], mkH E ro) Q = Q (some (.int xs0)) (mkH E ro) := by
  exact r_iret rfl rfl

theorem en_X10_move {d : Nat} {E : pEv} {ro : Nat → Nat → Int32} {Q : Option Value → pH → Prop} (s_E : oE E) {x1 : Int32} {x2 : Int32} {x3 : Int32} {x4 : Int32} {x5 : Int32} : wX (d + 1) 236 [.ref 101, .int x1, .int x2, .int x3, .int x4, .int x5] (mkH E ro) Q = wX d 233 [.int x1] (mkH E ro) (fun v h' => wG d 236 (4, [.ref 101, .int x1, .int x2, .int x3, .int x4, .int x5, .retAddr 0], pv v [], h') Q) := by
  refine (wX_in rfl (by decide)).trans ?_
  show wG d 236 (0, [.ref 101, .int x1, .int x2, .int x3, .int x4, .int x5, .retAddr 0], [], mkH E ro) Q = _
  refine (r_iload_n rfl rfl rfl).trans ?_
  exact r_ins (m := 233) rfl rfl rfl rfl rfl rfl

theorem sg_X10_move_4 {d : Nat} {E : pEv} {ro : Nat → Nat → Int32} {Q : Option Value → pH → Prop} (s_E : oE E) {x1 : Int32} {x2 : Int32} {x3 : Int32} {x4 : Int32} {x5 : Int32} {v6 : Value} {xs0 : Int32} : wG d 236 (4, [.ref 101, .int x1, .int x2, .int x3, .int x4, .int x5, v6], [.int xs0], mkH E ro) Q = (if xs0 = 0 then wX d 153 [.ref 101, .int 1] (mkH E ro) (fun v h' => wG d 236 (19, [.ref 101, .int x1, .int x2, .int x3, .int x4, .int x5, v6], pv v [], h') Q) else wX d 233 [.int x3] (mkH E ro) (fun v h' => wG d 236 (11, [.ref 101, .int x1, .int x2, .int x3, .int x4, .int x5, v6], pv v [], h') Q)) := by
  refine (r_if_eq rfl rfl rfl).trans ?_
  refine ite_congr rfl (fun h_0 => ?_) (fun h_0 => ?_)
  · refine (r_aload_n rfl rfl rfl).trans ?_
    refine (r_iconst (v := 1) rfl rfl rfl).trans ?_
    exact r_inv (m := 153) (c := 10) rfl rfl rfl rfl rfl rfl rfl rfl
  · refine (r_iload_n rfl rfl rfl).trans ?_
    exact r_ins (m := 233) rfl rfl rfl rfl rfl rfl

theorem sg_X10_move_11 {d : Nat} {E : pEv} {ro : Nat → Nat → Int32} {Q : Option Value → pH → Prop} (s_E : oE E) {x1 : Int32} {x2 : Int32} {x3 : Int32} {x4 : Int32} {x5 : Int32} {v6 : Value} {xs0 : Int32} (b0 : (¬ xs0 = 0) → (¬ x1 < 0 ∧ x1.toNatClampNeg < 4)) (b1 : (¬ xs0 = 0) → (¬ (ro 112 x1.toNatClampNeg) = 0) → (¬ x3 < 0 ∧ x3.toNatClampNeg < 4)) (b2 : (¬ xs0 = 0) → (¬ (ro 112 x1.toNatClampNeg) = 0) → (¬ (ro 112 x3.toNatClampNeg) = 0) → (¬ x1 < 0 ∧ x1.toNatClampNeg < 4)) (b3 : (¬ xs0 = 0) → (¬ (ro 112 x1.toNatClampNeg) = 0) → (¬ (ro 112 x3.toNatClampNeg) = 0) → (¬ x3 < 0 ∧ x3.toNatClampNeg < 4)) (b4 : (¬ xs0 = 0) → (¬ (ro 112 x1.toNatClampNeg) = 0) → (¬ (ro 112 x3.toNatClampNeg) = 0) → ((ro 112 x1.toNatClampNeg) = (ro 112 x3.toNatClampNeg)) → (¬ x5 < 0) → (¬ x2 < 0) → (¬ x4 < 0) → (¬ x1 < 0 ∧ x1.toNatClampNeg < 4)) (b5 : (¬ xs0 = 0) → (¬ (ro 112 x1.toNatClampNeg) = 0) → (¬ (ro 112 x3.toNatClampNeg) = 0) → ((ro 112 x1.toNatClampNeg) = (ro 112 x3.toNatClampNeg)) → (¬ x5 < 0) → (¬ x2 < 0) → (¬ x4 < 0) → (¬ ((ro 113 x1.toNatClampNeg) - x2) < x5) → (¬ x3 < 0 ∧ x3.toNatClampNeg < 4)) : wG d 236 (11, [.ref 101, .int x1, .int x2, .int x3, .int x4, .int x5, v6], [.int xs0], mkH E ro) Q = (if xs0 = 0 then wX d 153 [.ref 101, .int 1] (mkH E ro) (fun v h' => wG d 236 (19, [.ref 101, .int x1, .int x2, .int x3, .int x4, .int x5, v6], pv v [], h') Q) else (if (ro 112 x1.toNatClampNeg) = 0 then wX d 153 [.ref 101, .int 2] (mkH E ro) (fun v h' => wG d 236 (43, [.ref 101, .int x1, .int x2, .int x3, .int x4, .int x5, v6], pv v [], h') Q) else (if (ro 112 x3.toNatClampNeg) = 0 then wX d 153 [.ref 101, .int 2] (mkH E ro) (fun v h' => wG d 236 (43, [.ref 101, .int x1, .int x2, .int x3, .int x4, .int x5, v6], pv v [], h') Q) else (if (ro 112 x1.toNatClampNeg) = (ro 112 x3.toNatClampNeg) then (if x5 < 0 then wX d 153 [.ref 101, .int 1] (mkH E ro) (fun v h' => wG d 236 (111, [.ref 101, .int x1, .int x2, .int x3, .int x4, .int x5, v6], pv v [], h') Q) else (if x2 < 0 then wX d 153 [.ref 101, .int 1] (mkH E ro) (fun v h' => wG d 236 (111, [.ref 101, .int x1, .int x2, .int x3, .int x4, .int x5, v6], pv v [], h') Q) else (if x4 < 0 then wX d 153 [.ref 101, .int 1] (mkH E ro) (fun v h' => wG d 236 (111, [.ref 101, .int x1, .int x2, .int x3, .int x4, .int x5, v6], pv v [], h') Q) else (if ((ro 113 x1.toNatClampNeg) - x2) < x5 then wX d 153 [.ref 101, .int 1] (mkH E ro) (fun v h' => wG d 236 (111, [.ref 101, .int x1, .int x2, .int x3, .int x4, .int x5, v6], pv v [], h') Q) else (if ((ro 113 x3.toNatClampNeg) - x4) < x5 then wX d 153 [.ref 101, .int 1] (mkH E ro) (fun v h' => wG d 236 (111, [.ref 101, .int x1, .int x2, .int x3, .int x4, .int x5, v6], pv v [], h') Q) else wG d 236 (115, [.ref 101, .int x1, .int x2, .int x3, .int x4, .int x5, .int 0], [], mkH E ro) Q))))) else wX d 153 [.ref 101, .int 5] (mkH E ro) (fun v h' => wG d 236 (64, [.ref 101, .int x1, .int x2, .int x3, .int x4, .int x5, v6], pv v [], h') Q))))) := by
  refine (r_if_ne rfl rfl rfl).trans ?_
  refine ite_congr rfl (fun h_0 => ?_) (fun h_0 => ?_)
  · refine (r_aload_n rfl rfl rfl).trans ?_
    refine (r_iconst (v := 1) rfl rfl rfl).trans ?_
    exact r_inv (m := 153) (c := 10) rfl rfl rfl rfl rfl rfl rfl rfl
  · refine (r_aload_n rfl rfl rfl).trans ?_
    refine (r_getR (ci := 10) (sl := 21) s_E rfl rfl rfl rfl (by decide) rfl rfl).trans ?_
    refine (r_iload_n rfl rfl rfl).trans ?_
    refine (r_iald rfl rfl rfl (by decide) (b0 h_0)).trans ?_
    refine (r_if_eq rfl rfl rfl).trans ?_
    refine ite_congr rfl (fun h_1 => ?_) (fun h_1 => ?_)
    · refine (r_aload_n rfl rfl rfl).trans ?_
      refine (r_iconst (v := 2) rfl rfl rfl).trans ?_
      exact r_inv (m := 153) (c := 10) rfl rfl rfl rfl rfl rfl rfl rfl
    · refine (r_aload_n rfl rfl rfl).trans ?_
      refine (r_getR (ci := 10) (sl := 21) s_E rfl rfl rfl rfl (by decide) rfl rfl).trans ?_
      refine (r_iload_n rfl rfl rfl).trans ?_
      refine (r_iald rfl rfl rfl (by decide) (b1 h_0 h_1)).trans ?_
      refine (r_if_ne rfl rfl rfl).trans ?_
      refine ite_congr rfl (fun h_2 => ?_) (fun h_2 => ?_)
      · refine (r_aload_n rfl rfl rfl).trans ?_
        refine (r_iconst (v := 2) rfl rfl rfl).trans ?_
        exact r_inv (m := 153) (c := 10) rfl rfl rfl rfl rfl rfl rfl rfl
      · refine (r_aload_n rfl rfl rfl).trans ?_
        refine (r_getR (ci := 10) (sl := 21) s_E rfl rfl rfl rfl (by decide) rfl rfl).trans ?_
        refine (r_iload_n rfl rfl rfl).trans ?_
        refine (r_iald rfl rfl rfl (by decide) (b2 h_0 h_1 h_2)).trans ?_
        refine (r_aload_n rfl rfl rfl).trans ?_
        refine (r_getR (ci := 10) (sl := 21) s_E rfl rfl rfl rfl (by decide) rfl rfl).trans ?_
        refine (r_iload_n rfl rfl rfl).trans ?_
        refine (r_iald rfl rfl rfl (by decide) (b3 h_0 h_1 h_2)).trans ?_
        refine (r_icmp_eq rfl rfl rfl).trans ?_
        refine ite_congr rfl (fun h_3 => ?_) (fun h_3 => ?_)
        · refine (r_iload rfl rfl rfl).trans ?_
          refine (r_if_lt rfl rfl rfl).trans ?_
          refine ite_congr rfl (fun h_4 => ?_) (fun h_4 => ?_)
          · refine (r_aload_n rfl rfl rfl).trans ?_
            refine (r_iconst (v := 1) rfl rfl rfl).trans ?_
            exact r_inv (m := 153) (c := 10) rfl rfl rfl rfl rfl rfl rfl rfl
          · refine (r_iload_n rfl rfl rfl).trans ?_
            refine (r_if_lt rfl rfl rfl).trans ?_
            refine ite_congr rfl (fun h_5 => ?_) (fun h_5 => ?_)
            · refine (r_aload_n rfl rfl rfl).trans ?_
              refine (r_iconst (v := 1) rfl rfl rfl).trans ?_
              exact r_inv (m := 153) (c := 10) rfl rfl rfl rfl rfl rfl rfl rfl
            · refine (r_iload rfl rfl rfl).trans ?_
              refine (r_if_lt rfl rfl rfl).trans ?_
              refine ite_congr rfl (fun h_6 => ?_) (fun h_6 => ?_)
              · refine (r_aload_n rfl rfl rfl).trans ?_
                refine (r_iconst (v := 1) rfl rfl rfl).trans ?_
                exact r_inv (m := 153) (c := 10) rfl rfl rfl rfl rfl rfl rfl rfl
              · refine (r_iload rfl rfl rfl).trans ?_
                refine (r_aload_n rfl rfl rfl).trans ?_
                refine (r_getR (ci := 10) (sl := 22) s_E rfl rfl rfl rfl (by decide) rfl rfl).trans ?_
                refine (r_iload_n rfl rfl rfl).trans ?_
                refine (r_iald rfl rfl rfl (by decide) (b4 h_0 h_1 h_2 h_3 h_4 h_5 h_6)).trans ?_
                refine (r_iload_n rfl rfl rfl).trans ?_
                refine (r_isub rfl rfl).trans ?_
                refine (r_icmp_gt rfl rfl rfl).trans ?_
                refine ite_congr rfl (fun h_7 => ?_) (fun h_7 => ?_)
                · refine (r_aload_n rfl rfl rfl).trans ?_
                  refine (r_iconst (v := 1) rfl rfl rfl).trans ?_
                  exact r_inv (m := 153) (c := 10) rfl rfl rfl rfl rfl rfl rfl rfl
                · refine (r_iload rfl rfl rfl).trans ?_
                  refine (r_aload_n rfl rfl rfl).trans ?_
                  refine (r_getR (ci := 10) (sl := 22) s_E rfl rfl rfl rfl (by decide) rfl rfl).trans ?_
                  refine (r_iload_n rfl rfl rfl).trans ?_
                  refine (r_iald rfl rfl rfl (by decide) (b5 h_0 h_1 h_2 h_3 h_4 h_5 h_6 h_7)).trans ?_
                  refine (r_iload rfl rfl rfl).trans ?_
                  refine (r_isub rfl rfl).trans ?_
                  refine (r_icmp_le rfl rfl rfl).trans ?_
                  refine ite_congr rfl (fun h_8 => ?_) (fun h_8 => ?_)
                  · refine (r_aload_n rfl rfl rfl).trans ?_
                    refine (r_iconst (v := 1) rfl rfl rfl).trans ?_
                    exact r_inv (m := 153) (c := 10) rfl rfl rfl rfl rfl rfl rfl rfl
                  · refine (r_iconst (v := 0) rfl rfl rfl).trans ?_
                    refine (r_istore rfl rfl rfl rfl).trans ?_
                    exact rfl
        · refine (r_aload_n rfl rfl rfl).trans ?_
          refine (r_iconst (v := 5) rfl rfl rfl).trans ?_
          exact r_inv (m := 153) (c := 10) rfl rfl rfl rfl rfl rfl rfl rfl

theorem sg_X10_move_19 {d : Nat} {E : pEv} {ro : Nat → Nat → Int32} {Q : Option Value → pH → Prop} (s_E : oE E) {x1 : Int32} {x2 : Int32} {x3 : Int32} {x4 : Int32} {x5 : Int32} {v6 : Value} {xs0 : Int32} : wG d 236 (19, [.ref 101, .int x1, .int x2, .int x3, .int x4, .int x5, v6], [.int xs0], mkH E ro) Q = Q (some (.int xs0)) (mkH E ro) := by
  exact r_iret rfl rfl

theorem sg_X10_move_43 {d : Nat} {E : pEv} {ro : Nat → Nat → Int32} {Q : Option Value → pH → Prop} (s_E : oE E) {x1 : Int32} {x2 : Int32} {x3 : Int32} {x4 : Int32} {x5 : Int32} {v6 : Value} {xs0 : Int32} : wG d 236 (43, [.ref 101, .int x1, .int x2, .int x3, .int x4, .int x5, v6], [.int xs0], mkH E ro) Q = Q (some (.int xs0)) (mkH E ro) := by
  exact r_iret rfl rfl

theorem sg_X10_move_64 {d : Nat} {E : pEv} {ro : Nat → Nat → Int32} {Q : Option Value → pH → Prop} (s_E : oE E) {x1 : Int32} {x2 : Int32} {x3 : Int32} {x4 : Int32} {x5 : Int32} {v6 : Value} {xs0 : Int32} : wG d 236 (64, [.ref 101, .int x1, .int x2, .int x3, .int x4, .int x5, v6], [.int xs0], mkH E ro) Q = Q (some (.int xs0)) (mkH E ro) := by
  exact r_iret rfl rfl

theorem sg_X10_move_111 {d : Nat} {E : pEv} {ro : Nat → Nat → Int32} {Q : Option Value → pH → Prop} (s_E : oE E) {x1 : Int32} {x2 : Int32} {x3 : Int32} {x4 : Int32} {x5 : Int32} {v6 : Value} {xs0 : Int32} : wG d 236 (111, [.ref 101, .int x1, .int x2, .int x3, .int x4, .int x5, v6], [.int xs0], mkH E ro) Q = Q (some (.int xs0)) (mkH E ro) := by
  exact r_iret rfl rfl

theorem sg_X10_move_115 {d : Nat} {E : pEv} {ro : Nat → Nat → Int32} {Q : Option Value → pH → Prop} (s_E : oE E) {x1 : Int32} {x2 : Int32} {x3 : Int32} {x4 : Int32} {x5 : Int32} {x6 : Int32} (b0 : (x6 < x5) → (¬ (((40 * x1) + x2) + x6) < 0 ∧ (((40 * x1) + x2) + x6).toNatClampNeg < 160)) (b1 : (x6 < x5) → (¬ x6 < 0 ∧ x6.toNatClampNeg < 40)) : wG d 236 (115, [.ref 101, .int x1, .int x2, .int x3, .int x4, .int x5, .int x6], [], mkH E ro) Q = (if x6 < x5 then wG d 236 (115, [.ref 101, .int x1, .int x2, .int x3, .int x4, .int x5, .int (x6 + 1)], [], mkH E (uI ro 115 x6.toNatClampNeg (ro 114 (((40 * x1) + x2) + x6).toNatClampNeg))) Q else wG d 236 (152, [.ref 101, .int x1, .int x2, .int x3, .int x4, .int x5, .int 0], [], mkH E ro) Q) := by
  refine (r_iload rfl rfl rfl).trans ?_
  refine (r_iload rfl rfl rfl).trans ?_
  refine (r_icmp_ge rfl rfl rfl).trans ?_
  refine ite_congr rfl (fun h_0 => ?_) (fun h_0 => ?_)
  · refine (r_aload_n rfl rfl rfl).trans ?_
    refine (r_getR (ci := 10) (sl := 24) s_E rfl rfl rfl rfl (by decide) rfl rfl).trans ?_
    refine (r_iload rfl rfl rfl).trans ?_
    refine (r_aload_n rfl rfl rfl).trans ?_
    refine (r_getR (ci := 10) (sl := 23) s_E rfl rfl rfl rfl (by decide) rfl rfl).trans ?_
    refine (r_bipush (v := 40) rfl rfl rfl).trans ?_
    refine (r_iload_n rfl rfl rfl).trans ?_
    refine (r_imul rfl rfl).trans ?_
    refine (r_iload_n rfl rfl rfl).trans ?_
    refine (r_iadd rfl rfl).trans ?_
    refine (r_iload rfl rfl rfl).trans ?_
    refine (r_iadd rfl rfl).trans ?_
    refine (r_iald rfl rfl rfl (by decide) (b0 h_0)).trans ?_
    refine (r_iast rfl rfl rfl (by decide) (b1 h_0)).trans ?_
    refine (r_iinc (y := 1) rfl rfl rfl rfl rfl rfl).trans ?_
    refine (r_goto rfl rfl).trans ?_
    exact rfl
  · refine (r_iconst (v := 0) rfl rfl rfl).trans ?_
    refine (r_istore rfl rfl rfl rfl).trans ?_
    exact rfl

theorem sg_X10_move_152 {d : Nat} {E : pEv} {ro : Nat → Nat → Int32} {Q : Option Value → pH → Prop} (s_E : oE E) {x1 : Int32} {x2 : Int32} {x3 : Int32} {x4 : Int32} {x5 : Int32} {x6 : Int32} (b0 : (x6 < x5) → (¬ x6 < 0 ∧ x6.toNatClampNeg < 40)) (b1 : (x6 < x5) → (¬ (((40 * x3) + x4) + x6) < 0 ∧ (((40 * x3) + x4) + x6).toNatClampNeg < 160)) : wG d 236 (152, [.ref 101, .int x1, .int x2, .int x3, .int x4, .int x5, .int x6], [], mkH E ro) Q = (if x6 < x5 then wG d 236 (152, [.ref 101, .int x1, .int x2, .int x3, .int x4, .int x5, .int (x6 + 1)], [], mkH E (uI ro 114 (((40 * x3) + x4) + x6).toNatClampNeg (ro 115 x6.toNatClampNeg))) Q else Q (some (.int x5)) (mkH E ro)) := by
  refine (r_iload rfl rfl rfl).trans ?_
  refine (r_iload rfl rfl rfl).trans ?_
  refine (r_icmp_ge rfl rfl rfl).trans ?_
  refine ite_congr rfl (fun h_0 => ?_) (fun h_0 => ?_)
  · refine (r_aload_n rfl rfl rfl).trans ?_
    refine (r_getR (ci := 10) (sl := 23) s_E rfl rfl rfl rfl (by decide) rfl rfl).trans ?_
    refine (r_bipush (v := 40) rfl rfl rfl).trans ?_
    refine (r_iload_n rfl rfl rfl).trans ?_
    refine (r_imul rfl rfl).trans ?_
    refine (r_iload rfl rfl rfl).trans ?_
    refine (r_iadd rfl rfl).trans ?_
    refine (r_iload rfl rfl rfl).trans ?_
    refine (r_iadd rfl rfl).trans ?_
    refine (r_aload_n rfl rfl rfl).trans ?_
    refine (r_getR (ci := 10) (sl := 24) s_E rfl rfl rfl rfl (by decide) rfl rfl).trans ?_
    refine (r_iload rfl rfl rfl).trans ?_
    refine (r_iald rfl rfl rfl (by decide) (b0 h_0)).trans ?_
    refine (r_iast rfl rfl rfl (by decide) (b1 h_0)).trans ?_
    refine (r_iinc (y := 1) rfl rfl rfl rfl rfl rfl).trans ?_
    refine (r_goto rfl rfl).trans ?_
    exact rfl
  · refine (r_iload rfl rfl rfl).trans ?_
    exact r_iret rfl rfl

theorem en_X10_areScenes {d : Nat} {E : pEv} {ro : Nat → Nat → Int32} {Q : Option Value → pH → Prop} (s_E : oE E) {x1 : Int32} (b0 : (¬ x1 < 0 ∧ x1.toNatClampNeg < 4)) : wX (d + 1) 237 [.ref 101, .int x1] (mkH E ro) Q = (if (ro 113 x1.toNatClampNeg) = (ro 102 0) then wG d 237 (26, [.ref 101, .int x1, .int 0, .int 1, .int 0, .retAddr 0], [], mkH E ro) Q else wG d 237 (26, [.ref 101, .int x1, .int 0, .int 0, .int 0, .retAddr 0], [], mkH E ro) Q) := by
  refine (wX_in rfl (by decide)).trans ?_
  show wG d 237 (0, [.ref 101, .int x1, .retAddr 0, .retAddr 0, .retAddr 0, .retAddr 0], [], mkH E ro) Q = _
  refine (r_iconst (v := 0) rfl rfl rfl).trans ?_
  refine (r_istore_n rfl rfl rfl rfl).trans ?_
  refine (r_aload_n rfl rfl rfl).trans ?_
  refine (r_getR (ci := 10) (sl := 22) s_E rfl rfl rfl rfl (by decide) rfl rfl).trans ?_
  refine (r_iload_n rfl rfl rfl).trans ?_
  refine (r_iald rfl rfl rfl (by decide) b0).trans ?_
  refine (r_aload_n rfl rfl rfl).trans ?_
  refine (r_getR (ci := 10) (sl := 0) s_E rfl rfl rfl rfl (by decide) rfl rfl).trans ?_
  refine (r_iconst (v := 0) rfl rfl rfl).trans ?_
  refine (r_iald rfl rfl rfl (by decide) (by decide)).trans ?_
  refine (r_icmp_ne rfl rfl rfl).trans ?_
  refine ite_congr rfl (fun h_0 => ?_) (fun h_0 => ?_)
  · refine (r_iconst (v := 1) rfl rfl rfl).trans ?_
    refine (r_goto rfl rfl).trans ?_
    refine (r_istore_n rfl rfl rfl rfl).trans ?_
    refine (r_iconst (v := 0) rfl rfl rfl).trans ?_
    refine (r_istore rfl rfl rfl rfl).trans ?_
    exact rfl
  · refine (r_iconst (v := 0) rfl rfl rfl).trans ?_
    refine (r_istore_n rfl rfl rfl rfl).trans ?_
    refine (r_iconst (v := 0) rfl rfl rfl).trans ?_
    refine (r_istore rfl rfl rfl rfl).trans ?_
    exact rfl

theorem sg_X10_areScenes_26 {d : Nat} {E : pEv} {ro : Nat → Nat → Int32} {Q : Option Value → pH → Prop} (s_E : oE E) {x1 : Int32} {x2 : Int32} {x3 : Int32} {x4 : Int32} {v5 : Value} (b0 : (¬ x1 < 0 ∧ x1.toNatClampNeg < 4)) (b1 : (x4 < (ro 113 x1.toNatClampNeg)) → (x3 = 0) → (narrow .boolean (.int x3) = .int x3)) (b2 : (x4 < (ro 113 x1.toNatClampNeg)) → (¬ x3 = 0) → (¬ ((40 * x1) + x4) < 0 ∧ ((40 * x1) + x4).toNatClampNeg < 160)) (b3 : (¬ x4 < (ro 113 x1.toNatClampNeg)) → (narrow .boolean (.int x3) = .int x3)) : wG d 237 (26, [.ref 101, .int x1, .int x2, .int x3, .int x4, v5], [], mkH E ro) Q = (if x4 < (ro 113 x1.toNatClampNeg) then (if x3 = 0 then Q (some (.int x3)) (mkH E ro) else wX d 156 [.ref 101, .int (ro 114 ((40 * x1) + x4).toNatClampNeg)] (mkH E ro) (fun v h' => wG d 237 (61, [.ref 101, .int x1, .int x2, .int x3, .int x4, .int (ro 114 ((40 * x1) + x4).toNatClampNeg)], pv v [], h') Q)) else Q (some (.int x3)) (mkH E ro)) := by
  refine (r_iload rfl rfl rfl).trans ?_
  refine (r_aload_n rfl rfl rfl).trans ?_
  refine (r_getR (ci := 10) (sl := 22) s_E rfl rfl rfl rfl (by decide) rfl rfl).trans ?_
  refine (r_iload_n rfl rfl rfl).trans ?_
  refine (r_iald rfl rfl rfl (by decide) b0).trans ?_
  refine (r_icmp_ge rfl rfl rfl).trans ?_
  refine ite_congr rfl (fun h_0 => ?_) (fun h_0 => ?_)
  · refine (r_iload_n rfl rfl rfl).trans ?_
    refine (r_if_eq rfl rfl rfl).trans ?_
    refine ite_congr rfl (fun h_1 => ?_) (fun h_1 => ?_)
    · refine (r_iload_n rfl rfl rfl).trans ?_
      exact r_zret rfl rfl (b1 h_0 h_1)
    · refine (r_aload_n rfl rfl rfl).trans ?_
      refine (r_getR (ci := 10) (sl := 23) s_E rfl rfl rfl rfl (by decide) rfl rfl).trans ?_
      refine (r_bipush (v := 40) rfl rfl rfl).trans ?_
      refine (r_iload_n rfl rfl rfl).trans ?_
      refine (r_imul rfl rfl).trans ?_
      refine (r_iload rfl rfl rfl).trans ?_
      refine (r_iadd rfl rfl).trans ?_
      refine (r_iald rfl rfl rfl (by decide) (b2 h_0 h_1)).trans ?_
      refine (r_istore rfl rfl rfl rfl).trans ?_
      refine (r_aload_n rfl rfl rfl).trans ?_
      refine (r_iload rfl rfl rfl).trans ?_
      exact r_inv (m := 156) (c := 10) rfl rfl rfl rfl rfl rfl rfl rfl
  · refine (r_iload_n rfl rfl rfl).trans ?_
    exact r_zret rfl rfl (b3 h_0)

theorem sg_X10_areScenes_61 {d : Nat} {E : pEv} {ro : Nat → Nat → Int32} {Q : Option Value → pH → Prop} (s_E : oE E) {x1 : Int32} {x2 : Int32} {x3 : Int32} {x4 : Int32} {x5 : Int32} {xs0 : Int32} : wG d 237 (61, [.ref 101, .int x1, .int x2, .int x3, .int x4, .int x5], [.int xs0], mkH E ro) Q = (if xs0 = 0 then wG d 237 (26, [.ref 101, .int x1, .int (x2 ||| 0), .int 0, .int (x4 + 1), .int x5], [], mkH E ro) Q else (if ((x2 >>> (x5 &&& 31)) &&& 1) = 0 then wG d 237 (26, [.ref 101, .int x1, .int (x2 ||| ((1 : Int32) <<< (x5 &&& 31))), .int 1, .int (x4 + 1), .int x5], [], mkH E ro) Q else wG d 237 (26, [.ref 101, .int x1, .int (x2 ||| 0), .int 0, .int (x4 + 1), .int x5], [], mkH E ro) Q)) := by
  refine (r_if_eq rfl rfl rfl).trans ?_
  refine ite_congr rfl (fun h_0 => ?_) (fun h_0 => ?_)
  · refine (r_iconst (v := 0) rfl rfl rfl).trans ?_
    refine (r_istore_n rfl rfl rfl rfl).trans ?_
    refine (r_iload_n rfl rfl rfl).trans ?_
    refine (r_iload_n rfl rfl rfl).trans ?_
    refine (r_if_eq rfl rfl rfl).trans ?_
    refine (if_pos (by decide)).trans ?_
    refine (r_iconst (v := 0) rfl rfl rfl).trans ?_
    refine (r_ior rfl rfl).trans ?_
    refine (r_istore_n rfl rfl rfl rfl).trans ?_
    refine (r_iinc (y := 1) rfl rfl rfl rfl rfl rfl).trans ?_
    refine (r_goto rfl rfl).trans ?_
    exact rfl
  · refine (r_iload_n rfl rfl rfl).trans ?_
    refine (r_iload rfl rfl rfl).trans ?_
    refine (r_ishr rfl rfl).trans ?_
    refine (r_iconst (v := 1) rfl rfl rfl).trans ?_
    refine (r_iand rfl rfl).trans ?_
    refine (r_if_ne rfl rfl rfl).trans ?_
    refine ite_congr rfl (fun h_1 => ?_) (fun h_1 => ?_)
    · refine (r_iconst (v := 1) rfl rfl rfl).trans ?_
      refine (r_goto rfl rfl).trans ?_
      refine (r_istore_n rfl rfl rfl rfl).trans ?_
      refine (r_iload_n rfl rfl rfl).trans ?_
      refine (r_iload_n rfl rfl rfl).trans ?_
      refine (r_if_eq rfl rfl rfl).trans ?_
      refine (if_neg (by decide)).trans ?_
      refine (r_iconst (v := 1) rfl rfl rfl).trans ?_
      refine (r_iload rfl rfl rfl).trans ?_
      refine (r_ishl rfl rfl).trans ?_
      refine (r_goto rfl rfl).trans ?_
      refine (r_ior rfl rfl).trans ?_
      refine (r_istore_n rfl rfl rfl rfl).trans ?_
      refine (r_iinc (y := 1) rfl rfl rfl rfl rfl rfl).trans ?_
      refine (r_goto rfl rfl).trans ?_
      exact rfl
    · refine (r_iconst (v := 0) rfl rfl rfl).trans ?_
      refine (r_istore_n rfl rfl rfl rfl).trans ?_
      refine (r_iload_n rfl rfl rfl).trans ?_
      refine (r_iload_n rfl rfl rfl).trans ?_
      refine (r_if_eq rfl rfl rfl).trans ?_
      refine (if_pos (by decide)).trans ?_
      refine (r_iconst (v := 0) rfl rfl rfl).trans ?_
      refine (r_ior rfl rfl).trans ?_
      refine (r_istore_n rfl rfl rfl rfl).trans ?_
      refine (r_iinc (y := 1) rfl rfl rfl rfl rfl rfl).trans ?_
      refine (r_goto rfl rfl).trans ?_
      exact rfl

theorem en_X10_order {d : Nat} {E : pEv} {ro : Nat → Nat → Int32} {Q : Option Value → pH → Prop} (s_E : oE E) {x1 : Int32} : wX (d + 1) 238 [.ref 101, .int x1] (mkH E ro) Q = wX d 233 [.int x1] (mkH E ro) (fun v h' => wG d 238 (4, [.ref 101, .int x1, .retAddr 0], pv v [], h') Q) := by
  refine (wX_in rfl (by decide)).trans ?_
  show wG d 238 (0, [.ref 101, .int x1, .retAddr 0], [], mkH E ro) Q = _
  refine (r_iload_n rfl rfl rfl).trans ?_
  exact r_ins (m := 233) rfl rfl rfl rfl rfl rfl

theorem sg_X10_order_4 {d : Nat} {E : pEv} {ro : Nat → Nat → Int32} {Q : Option Value → pH → Prop} (s_E : oE E) {x1 : Int32} {v2 : Value} {xs0 : Int32} (b0 : (¬ xs0 = 0) → (¬ x1 < 0 ∧ x1.toNatClampNeg < 4)) : wG d 238 (4, [.ref 101, .int x1, v2], [.int xs0], mkH E ro) Q = (if xs0 = 0 then wX d 153 [.ref 101, .int 1] (mkH E ro) (fun v h' => wG d 238 (12, [.ref 101, .int x1, v2], pv v [], h') Q) else (if (ro 112 x1.toNatClampNeg) = 0 then wX d 153 [.ref 101, .int 2] (mkH E ro) (fun v h' => wG d 238 (27, [.ref 101, .int x1, v2], pv v [], h') Q) else wX d 237 [.ref 101, .int x1] (mkH E ro) (fun v h' => wG d 238 (33, [.ref 101, .int x1, v2], pv v [], h') Q))) := by
  refine (r_if_ne rfl rfl rfl).trans ?_
  refine ite_congr rfl (fun h_0 => ?_) (fun h_0 => ?_)
  · refine (r_aload_n rfl rfl rfl).trans ?_
    refine (r_iconst (v := 1) rfl rfl rfl).trans ?_
    exact r_inv (m := 153) (c := 10) rfl rfl rfl rfl rfl rfl rfl rfl
  · refine (r_aload_n rfl rfl rfl).trans ?_
    refine (r_getR (ci := 10) (sl := 21) s_E rfl rfl rfl rfl (by decide) rfl rfl).trans ?_
    refine (r_iload_n rfl rfl rfl).trans ?_
    refine (r_iald rfl rfl rfl (by decide) (b0 h_0)).trans ?_
    refine (r_if_ne rfl rfl rfl).trans ?_
    refine ite_congr rfl (fun h_1 => ?_) (fun h_1 => ?_)
    · refine (r_aload_n rfl rfl rfl).trans ?_
      refine (r_iconst (v := 2) rfl rfl rfl).trans ?_
      exact r_inv (m := 153) (c := 10) rfl rfl rfl rfl rfl rfl rfl rfl
    · refine (r_aload_n rfl rfl rfl).trans ?_
      refine (r_iload_n rfl rfl rfl).trans ?_
      exact r_inv (m := 237) (c := 10) rfl rfl rfl rfl rfl rfl rfl rfl

theorem sg_X10_order_12 {d : Nat} {E : pEv} {ro : Nat → Nat → Int32} {Q : Option Value → pH → Prop} (s_E : oE E) {x1 : Int32} {v2 : Value} {xs0 : Int32} : wG d 238 (12, [.ref 101, .int x1, v2], [.int xs0], mkH E ro) Q = Q (some (.int xs0)) (mkH E ro) := by
  exact r_iret rfl rfl

theorem sg_X10_order_27 {d : Nat} {E : pEv} {ro : Nat → Nat → Int32} {Q : Option Value → pH → Prop} (s_E : oE E) {x1 : Int32} {v2 : Value} {xs0 : Int32} : wG d 238 (27, [.ref 101, .int x1, v2], [.int xs0], mkH E ro) Q = Q (some (.int xs0)) (mkH E ro) := by
  exact r_iret rfl rfl

theorem sg_X10_order_33 {d : Nat} {E : pEv} {ro : Nat → Nat → Int32} {Q : Option Value → pH → Prop} (s_E : oE E) {x1 : Int32} {v2 : Value} {xs0 : Int32} : wG d 238 (33, [.ref 101, .int x1, v2], [.int xs0], mkH E ro) Q = (if xs0 = 0 then wX d 153 [.ref 101, .int 3] (mkH E ro) (fun v h' => wG d 238 (41, [.ref 101, .int x1, v2], pv v [], h') Q) else wG d 238 (44, [.ref 101, .int x1, .int 0], [], mkH E ro) Q) := by
  refine (r_if_ne rfl rfl rfl).trans ?_
  refine ite_congr rfl (fun h_0 => ?_) (fun h_0 => ?_)
  · refine (r_aload_n rfl rfl rfl).trans ?_
    refine (r_iconst (v := 3) rfl rfl rfl).trans ?_
    exact r_inv (m := 153) (c := 10) rfl rfl rfl rfl rfl rfl rfl rfl
  · refine (r_iconst (v := 0) rfl rfl rfl).trans ?_
    refine (r_istore_n rfl rfl rfl rfl).trans ?_
    exact rfl

theorem sg_X10_order_41 {d : Nat} {E : pEv} {ro : Nat → Nat → Int32} {Q : Option Value → pH → Prop} (s_E : oE E) {x1 : Int32} {v2 : Value} {xs0 : Int32} : wG d 238 (41, [.ref 101, .int x1, v2], [.int xs0], mkH E ro) Q = Q (some (.int xs0)) (mkH E ro) := by
  exact r_iret rfl rfl

theorem sg_X10_order_44 {d : Nat} {E : pEv} {ro : Nat → Nat → Int32} {Q : Option Value → pH → Prop} (s_E : oE E) {x1 : Int32} {x2 : Int32} (b0 : (x2 < (ro 102 0)) → (¬ ((40 * x1) + x2) < 0 ∧ ((40 * x1) + x2).toNatClampNeg < 160)) (b1 : (x2 < (ro 102 0)) → (¬ (80 + x2) < 0 ∧ (80 + x2).toNatClampNeg < 264)) : wG d 238 (44, [.ref 101, .int x1, .int x2], [], mkH E ro) Q = (if x2 < (ro 102 0) then wG d 238 (44, [.ref 101, .int x1, .int (x2 + 1)], [], mkH E (uI ro 102 (80 + x2).toNatClampNeg (ro 114 ((40 * x1) + x2).toNatClampNeg))) Q else Q (some (.int (ro 102 0))) (mkH E ro)) := by
  refine (r_iload_n rfl rfl rfl).trans ?_
  refine (r_aload_n rfl rfl rfl).trans ?_
  refine (r_getR (ci := 10) (sl := 0) s_E rfl rfl rfl rfl (by decide) rfl rfl).trans ?_
  refine (r_iconst (v := 0) rfl rfl rfl).trans ?_
  refine (r_iald rfl rfl rfl (by decide) (by decide)).trans ?_
  refine (r_icmp_ge rfl rfl rfl).trans ?_
  refine ite_congr rfl (fun h_0 => ?_) (fun h_0 => ?_)
  · refine (r_aload_n rfl rfl rfl).trans ?_
    refine (r_getR (ci := 10) (sl := 0) s_E rfl rfl rfl rfl (by decide) rfl rfl).trans ?_
    refine (r_bipush (v := 80) rfl rfl rfl).trans ?_
    refine (r_iload_n rfl rfl rfl).trans ?_
    refine (r_iadd rfl rfl).trans ?_
    refine (r_aload_n rfl rfl rfl).trans ?_
    refine (r_getR (ci := 10) (sl := 23) s_E rfl rfl rfl rfl (by decide) rfl rfl).trans ?_
    refine (r_bipush (v := 40) rfl rfl rfl).trans ?_
    refine (r_iload_n rfl rfl rfl).trans ?_
    refine (r_imul rfl rfl).trans ?_
    refine (r_iload_n rfl rfl rfl).trans ?_
    refine (r_iadd rfl rfl).trans ?_
    refine (r_iald rfl rfl rfl (by decide) (b0 h_0)).trans ?_
    refine (r_iast rfl rfl rfl (by decide) (b1 h_0)).trans ?_
    refine (r_iinc (y := 1) rfl rfl rfl rfl rfl rfl).trans ?_
    refine (r_goto rfl rfl).trans ?_
    exact rfl
  · refine (r_aload_n rfl rfl rfl).trans ?_
    refine (r_getR (ci := 10) (sl := 0) s_E rfl rfl rfl rfl (by decide) rfl rfl).trans ?_
    refine (r_iconst (v := 0) rfl rfl rfl).trans ?_
    refine (r_iald rfl rfl rfl (by decide) (by decide)).trans ?_
    exact r_iret rfl rfl

theorem en_X10_judge {d : Nat} {E : pEv} {ro : Nat → Nat → Int32} {Q : Option Value → pH → Prop} (s_E : oE E) {x1 : Int32} : wX (d + 1) 239 [.ref 101, .int x1] (mkH E ro) Q = wX d 233 [.int x1] (mkH E ro) (fun v h' => wG d 239 (4, [.ref 101, .int x1, .retAddr 0, .retAddr 0], pv v [], h') Q) := by
  refine (wX_in rfl (by decide)).trans ?_
  show wG d 239 (0, [.ref 101, .int x1, .retAddr 0, .retAddr 0], [], mkH E ro) Q = _
  refine (r_iload_n rfl rfl rfl).trans ?_
  exact r_ins (m := 233) rfl rfl rfl rfl rfl rfl

theorem sg_X10_judge_4 {d : Nat} {E : pEv} {ro : Nat → Nat → Int32} {Q : Option Value → pH → Prop} (s_E : oE E) {x1 : Int32} {v2 : Value} {v3 : Value} {xs0 : Int32} (b0 : (¬ xs0 = 0) → (¬ x1 < 0 ∧ x1.toNatClampNeg < 4)) : wG d 239 (4, [.ref 101, .int x1, v2, v3], [.int xs0], mkH E ro) Q = (if xs0 = 0 then wX d 153 [.ref 101, .int 1] (mkH E ro) (fun v h' => wG d 239 (12, [.ref 101, .int x1, v2, v3], pv v [], h') Q) else (if (ro 112 x1.toNatClampNeg) = 0 then wX d 153 [.ref 101, .int 2] (mkH E ro) (fun v h' => wG d 239 (27, [.ref 101, .int x1, v2, v3], pv v [], h') Q) else wX d 177 [.ref 101] (mkH E ro) (fun v h' => wG d 239 (32, [.ref 101, .int x1, v2, v3], pv v [], h') Q))) := by
  refine (r_if_ne rfl rfl rfl).trans ?_
  refine ite_congr rfl (fun h_0 => ?_) (fun h_0 => ?_)
  · refine (r_aload_n rfl rfl rfl).trans ?_
    refine (r_iconst (v := 1) rfl rfl rfl).trans ?_
    exact r_inv (m := 153) (c := 10) rfl rfl rfl rfl rfl rfl rfl rfl
  · refine (r_aload_n rfl rfl rfl).trans ?_
    refine (r_getR (ci := 10) (sl := 21) s_E rfl rfl rfl rfl (by decide) rfl rfl).trans ?_
    refine (r_iload_n rfl rfl rfl).trans ?_
    refine (r_iald rfl rfl rfl (by decide) (b0 h_0)).trans ?_
    refine (r_if_ne rfl rfl rfl).trans ?_
    refine ite_congr rfl (fun h_1 => ?_) (fun h_1 => ?_)
    · refine (r_aload_n rfl rfl rfl).trans ?_
      refine (r_iconst (v := 2) rfl rfl rfl).trans ?_
      exact r_inv (m := 153) (c := 10) rfl rfl rfl rfl rfl rfl rfl rfl
    · refine (r_aload_n rfl rfl rfl).trans ?_
      exact r_inv (m := 177) (c := 10) rfl rfl rfl rfl rfl rfl rfl rfl

theorem sg_X10_judge_12 {d : Nat} {E : pEv} {ro : Nat → Nat → Int32} {Q : Option Value → pH → Prop} (s_E : oE E) {x1 : Int32} {v2 : Value} {v3 : Value} {xs0 : Int32} : wG d 239 (12, [.ref 101, .int x1, v2, v3], [.int xs0], mkH E ro) Q = Q (some (.int xs0)) (mkH E ro) := by
  exact r_iret rfl rfl

theorem sg_X10_judge_27 {d : Nat} {E : pEv} {ro : Nat → Nat → Int32} {Q : Option Value → pH → Prop} (s_E : oE E) {x1 : Int32} {v2 : Value} {v3 : Value} {xs0 : Int32} : wG d 239 (27, [.ref 101, .int x1, v2, v3], [.int xs0], mkH E ro) Q = Q (some (.int xs0)) (mkH E ro) := by
  exact r_iret rfl rfl

theorem sg_X10_judge_32 {d : Nat} {E : pEv} {ro : Nat → Nat → Int32} {Q : Option Value → pH → Prop} (s_E : oE E) {x1 : Int32} {v2 : Value} {v3 : Value} {xs0 : Int32} : wG d 239 (32, [.ref 101, .int x1, v2, v3], [.int xs0], mkH E ro) Q = wG d 239 (35, [.ref 101, .int x1, .int xs0, .int 0], [], mkH E ro) Q := by
  refine (r_istore_n rfl rfl rfl rfl).trans ?_
  refine (r_iconst (v := 0) rfl rfl rfl).trans ?_
  refine (r_istore_n rfl rfl rfl rfl).trans ?_
  exact rfl

theorem sg_X10_judge_35 {d : Nat} {E : pEv} {ro : Nat → Nat → Int32} {Q : Option Value → pH → Prop} (s_E : oE E) {x1 : Int32} {x2 : Int32} {x3 : Int32} (b0 : (¬ x1 < 0 ∧ x1.toNatClampNeg < 4)) (b1 : (x3 < (ro 113 x1.toNatClampNeg)) → (x3 < (ro 102 0)) → (¬ ((40 * x1) + x3) < 0 ∧ ((40 * x1) + x3).toNatClampNeg < 160)) (b2 : (x3 < (ro 113 x1.toNatClampNeg)) → (x3 < (ro 102 0)) → (¬ (ro 114 ((40 * x1) + x3).toNatClampNeg) = ((x2 >>> (x3 &&& 31)) &&& 1)) → (¬ x1 < 0 ∧ x1.toNatClampNeg < 4)) (b3 : (x3 < (ro 113 x1.toNatClampNeg)) → (¬ x3 < (ro 102 0)) → (¬ x1 < 0 ∧ x1.toNatClampNeg < 4)) (b4 : (¬ x3 < (ro 113 x1.toNatClampNeg)) → (¬ x1 < 0 ∧ x1.toNatClampNeg < 4)) : wG d 239 (35, [.ref 101, .int x1, .int x2, .int x3], [], mkH E ro) Q = (if x3 < (ro 113 x1.toNatClampNeg) then (if x3 < (ro 102 0) then (if (ro 114 ((40 * x1) + x3).toNatClampNeg) = ((x2 >>> (x3 &&& 31)) &&& 1) then wG d 239 (35, [.ref 101, .int x1, .int x2, .int (x3 + 1)], [], mkH E ro) Q else (if x3 = (ro 113 x1.toNatClampNeg) then (if x3 = (ro 102 0) then Q (some (.int (-1))) (mkH E ro) else Q (some (.int x3)) (mkH E ro)) else Q (some (.int x3)) (mkH E ro))) else (if x3 = (ro 113 x1.toNatClampNeg) then (if x3 = (ro 102 0) then Q (some (.int (-1))) (mkH E ro) else Q (some (.int x3)) (mkH E ro)) else Q (some (.int x3)) (mkH E ro))) else (if x3 = (ro 113 x1.toNatClampNeg) then (if x3 = (ro 102 0) then Q (some (.int (-1))) (mkH E ro) else Q (some (.int x3)) (mkH E ro)) else Q (some (.int x3)) (mkH E ro))) := by
  refine (r_iload_n rfl rfl rfl).trans ?_
  refine (r_aload_n rfl rfl rfl).trans ?_
  refine (r_getR (ci := 10) (sl := 22) s_E rfl rfl rfl rfl (by decide) rfl rfl).trans ?_
  refine (r_iload_n rfl rfl rfl).trans ?_
  refine (r_iald rfl rfl rfl (by decide) b0).trans ?_
  refine (r_icmp_ge rfl rfl rfl).trans ?_
  refine ite_congr rfl (fun h_0 => ?_) (fun h_0 => ?_)
  · refine (r_iload_n rfl rfl rfl).trans ?_
    refine (r_aload_n rfl rfl rfl).trans ?_
    refine (r_getR (ci := 10) (sl := 0) s_E rfl rfl rfl rfl (by decide) rfl rfl).trans ?_
    refine (r_iconst (v := 0) rfl rfl rfl).trans ?_
    refine (r_iald rfl rfl rfl (by decide) (by decide)).trans ?_
    refine (r_icmp_ge rfl rfl rfl).trans ?_
    refine ite_congr rfl (fun h_1 => ?_) (fun h_1 => ?_)
    · refine (r_aload_n rfl rfl rfl).trans ?_
      refine (r_getR (ci := 10) (sl := 23) s_E rfl rfl rfl rfl (by decide) rfl rfl).trans ?_
      refine (r_bipush (v := 40) rfl rfl rfl).trans ?_
      refine (r_iload_n rfl rfl rfl).trans ?_
      refine (r_imul rfl rfl).trans ?_
      refine (r_iload_n rfl rfl rfl).trans ?_
      refine (r_iadd rfl rfl).trans ?_
      refine (r_iald rfl rfl rfl (by decide) (b1 h_0 h_1)).trans ?_
      refine (r_iload_n rfl rfl rfl).trans ?_
      refine (r_iload_n rfl rfl rfl).trans ?_
      refine (r_ishr rfl rfl).trans ?_
      refine (r_iconst (v := 1) rfl rfl rfl).trans ?_
      refine (r_iand rfl rfl).trans ?_
      refine (r_icmp_ne rfl rfl rfl).trans ?_
      refine ite_congr rfl (fun h_2 => ?_) (fun h_2 => ?_)
      · refine (r_iinc (y := 1) rfl rfl rfl rfl rfl rfl).trans ?_
        refine (r_goto rfl rfl).trans ?_
        exact rfl
      · refine (r_iload_n rfl rfl rfl).trans ?_
        refine (r_aload_n rfl rfl rfl).trans ?_
        refine (r_getR (ci := 10) (sl := 22) s_E rfl rfl rfl rfl (by decide) rfl rfl).trans ?_
        refine (r_iload_n rfl rfl rfl).trans ?_
        refine (r_iald rfl rfl rfl (by decide) (b2 h_0 h_1 h_2)).trans ?_
        refine (r_icmp_ne rfl rfl rfl).trans ?_
        refine ite_congr rfl (fun h_3 => ?_) (fun h_3 => ?_)
        · refine (r_iload_n rfl rfl rfl).trans ?_
          refine (r_aload_n rfl rfl rfl).trans ?_
          refine (r_getR (ci := 10) (sl := 0) s_E rfl rfl rfl rfl (by decide) rfl rfl).trans ?_
          refine (r_iconst (v := 0) rfl rfl rfl).trans ?_
          refine (r_iald rfl rfl rfl (by decide) (by decide)).trans ?_
          refine (r_icmp_ne rfl rfl rfl).trans ?_
          refine ite_congr rfl (fun h_4 => ?_) (fun h_4 => ?_)
          · refine (r_iconst (v := (-1)) rfl rfl rfl).trans ?_
            refine (r_goto rfl rfl).trans ?_
            exact r_iret rfl rfl
          · refine (r_iload_n rfl rfl rfl).trans ?_
            exact r_iret rfl rfl
        · refine (r_iload_n rfl rfl rfl).trans ?_
          exact r_iret rfl rfl
    · refine (r_iload_n rfl rfl rfl).trans ?_
      refine (r_aload_n rfl rfl rfl).trans ?_
      refine (r_getR (ci := 10) (sl := 22) s_E rfl rfl rfl rfl (by decide) rfl rfl).trans ?_
      refine (r_iload_n rfl rfl rfl).trans ?_
      refine (r_iald rfl rfl rfl (by decide) (b3 h_0 h_1)).trans ?_
      refine (r_icmp_ne rfl rfl rfl).trans ?_
      refine ite_congr rfl (fun h_2 => ?_) (fun h_2 => ?_)
      · refine (r_iload_n rfl rfl rfl).trans ?_
        refine (r_aload_n rfl rfl rfl).trans ?_
        refine (r_getR (ci := 10) (sl := 0) s_E rfl rfl rfl rfl (by decide) rfl rfl).trans ?_
        refine (r_iconst (v := 0) rfl rfl rfl).trans ?_
        refine (r_iald rfl rfl rfl (by decide) (by decide)).trans ?_
        refine (r_icmp_ne rfl rfl rfl).trans ?_
        refine ite_congr rfl (fun h_3 => ?_) (fun h_3 => ?_)
        · refine (r_iconst (v := (-1)) rfl rfl rfl).trans ?_
          refine (r_goto rfl rfl).trans ?_
          exact r_iret rfl rfl
        · refine (r_iload_n rfl rfl rfl).trans ?_
          exact r_iret rfl rfl
      · refine (r_iload_n rfl rfl rfl).trans ?_
        exact r_iret rfl rfl
  · refine (r_iload_n rfl rfl rfl).trans ?_
    refine (r_aload_n rfl rfl rfl).trans ?_
    refine (r_getR (ci := 10) (sl := 22) s_E rfl rfl rfl rfl (by decide) rfl rfl).trans ?_
    refine (r_iload_n rfl rfl rfl).trans ?_
    refine (r_iald rfl rfl rfl (by decide) (b4 h_0)).trans ?_
    refine (r_icmp_ne rfl rfl rfl).trans ?_
    refine ite_congr rfl (fun h_1 => ?_) (fun h_1 => ?_)
    · refine (r_iload_n rfl rfl rfl).trans ?_
      refine (r_aload_n rfl rfl rfl).trans ?_
      refine (r_getR (ci := 10) (sl := 0) s_E rfl rfl rfl rfl (by decide) rfl rfl).trans ?_
      refine (r_iconst (v := 0) rfl rfl rfl).trans ?_
      refine (r_iald rfl rfl rfl (by decide) (by decide)).trans ?_
      refine (r_icmp_ne rfl rfl rfl).trans ?_
      refine ite_congr rfl (fun h_2 => ?_) (fun h_2 => ?_)
      · refine (r_iconst (v := (-1)) rfl rfl rfl).trans ?_
        refine (r_goto rfl rfl).trans ?_
        exact r_iret rfl rfl
      · refine (r_iload_n rfl rfl rfl).trans ?_
        exact r_iret rfl rfl
    · refine (r_iload_n rfl rfl rfl).trans ?_
      exact r_iret rfl rfl

theorem en_X10_image {d : Nat} {E : pEv} {ro : Nat → Nat → Int32} {Q : Option Value → pH → Prop} (s_E : oE E) : wX (d + 1) 240 [.ref 101] (mkH E ro) Q = wG d 240 (2, [.ref 101, .int 0], [], mkH E ro) Q := by
  refine (wX_in rfl (by decide)).trans ?_
  show wG d 240 (0, [.ref 101, .retAddr 0], [], mkH E ro) Q = _
  refine (r_iconst (v := 0) rfl rfl rfl).trans ?_
  refine (r_istore_n rfl rfl rfl rfl).trans ?_
  exact rfl

theorem sg_X10_image_2 {d : Nat} {E : pEv} {ro : Nat → Nat → Int32} {Q : Option Value → pH → Prop} (s_E : oE E) {x1 : Int32} (b0 : (x1 < 264) → (¬ x1 < 0 ∧ x1.toNatClampNeg < 264)) : wG d 240 (2, [.ref 101, .int x1], [], mkH E ro) Q = (if x1 < 264 then wG d 240 (2, [.ref 101, .int (x1 + 1)], [], mkH E (uI ro 103 x1.toNatClampNeg (ro 102 x1.toNatClampNeg))) Q else Q (some (.int ((uI ro 101 2 ((ro 101 2) + 1)) 101 2))) (mkH E (uI ro 101 2 ((ro 101 2) + 1)))) := by
  refine (r_iload_n rfl rfl rfl).trans ?_
  refine (r_sipush (v := 264) rfl rfl rfl).trans ?_
  refine (r_icmp_ge rfl rfl rfl).trans ?_
  refine ite_congr rfl (fun h_0 => ?_) (fun h_0 => ?_)
  · refine (r_aload_n rfl rfl rfl).trans ?_
    refine (r_getR (ci := 10) (sl := 1) s_E rfl rfl rfl rfl (by decide) rfl rfl).trans ?_
    refine (r_iload_n rfl rfl rfl).trans ?_
    refine (r_aload_n rfl rfl rfl).trans ?_
    refine (r_getR (ci := 10) (sl := 0) s_E rfl rfl rfl rfl (by decide) rfl rfl).trans ?_
    refine (r_iload_n rfl rfl rfl).trans ?_
    refine (r_iald rfl rfl rfl (by decide) (b0 h_0)).trans ?_
    refine (r_iast rfl rfl rfl (by decide) (b0 h_0)).trans ?_
    refine (r_iinc (y := 1) rfl rfl rfl rfl rfl rfl).trans ?_
    refine (r_goto rfl rfl).trans ?_
    exact rfl
  · refine (r_aload_n rfl rfl rfl).trans ?_
    refine (r_dupR rfl rfl).trans ?_
    refine (r_getI (ci := 10) (sl := 2) rfl rfl rfl rfl (by decide)).trans ?_
    refine (r_iconst (v := 1) rfl rfl rfl).trans ?_
    refine (r_iadd rfl rfl).trans ?_
    refine (r_putI (ci := 10) (sl := 2) rfl rfl rfl rfl (by decide)).trans ?_
    refine (r_aload_n rfl rfl rfl).trans ?_
    refine (r_getI (ci := 10) (sl := 2) rfl rfl rfl rfl (by decide)).trans ?_
    exact r_iret rfl rfl

theorem en_X10_restore {d : Nat} {E : pEv} {ro : Nat → Nat → Int32} {Q : Option Value → pH → Prop} (s_E : oE E) : wX (d + 1) 241 [.ref 101] (mkH E ro) Q = (if (ro 101 2) = 0 then wX d 153 [.ref 101, .int 2] (mkH E ro) (fun v h' => wG d 241 (12, [.ref 101, .retAddr 0], pv v [], h') Q) else wG d 241 (15, [.ref 101, .int 0], [], mkH E ro) Q) := by
  refine (wX_in rfl (by decide)).trans ?_
  show wG d 241 (0, [.ref 101, .retAddr 0], [], mkH E ro) Q = _
  refine (r_aload_n rfl rfl rfl).trans ?_
  refine (r_getI (ci := 10) (sl := 2) rfl rfl rfl rfl (by decide)).trans ?_
  refine (r_if_ne rfl rfl rfl).trans ?_
  refine ite_congr rfl (fun h_0 => ?_) (fun h_0 => ?_)
  · refine (r_aload_n rfl rfl rfl).trans ?_
    refine (r_iconst (v := 2) rfl rfl rfl).trans ?_
    exact r_inv (m := 153) (c := 10) rfl rfl rfl rfl rfl rfl rfl rfl
  · refine (r_iconst (v := 0) rfl rfl rfl).trans ?_
    refine (r_istore_n rfl rfl rfl rfl).trans ?_
    exact rfl

theorem sg_X10_restore_12 {d : Nat} {E : pEv} {ro : Nat → Nat → Int32} {Q : Option Value → pH → Prop} (s_E : oE E) {v1 : Value} {xs0 : Int32} : wG d 241 (12, [.ref 101, v1], [.int xs0], mkH E ro) Q = Q (some (.int xs0)) (mkH E ro) := by
  exact r_iret rfl rfl

theorem sg_X10_restore_15 {d : Nat} {E : pEv} {ro : Nat → Nat → Int32} {Q : Option Value → pH → Prop} (s_E : oE E) {x1 : Int32} (b0 : (x1 < 264) → (¬ x1 < 0 ∧ x1.toNatClampNeg < 264)) : wG d 241 (15, [.ref 101, .int x1], [], mkH E ro) Q = (if x1 < 264 then wG d 241 (15, [.ref 101, .int (x1 + 1)], [], mkH E (uI ro 102 x1.toNatClampNeg (ro 103 x1.toNatClampNeg))) Q else Q (some (.int (ro 102 4))) (mkH E ro)) := by
  refine (r_iload_n rfl rfl rfl).trans ?_
  refine (r_sipush (v := 264) rfl rfl rfl).trans ?_
  refine (r_icmp_ge rfl rfl rfl).trans ?_
  refine ite_congr rfl (fun h_0 => ?_) (fun h_0 => ?_)
  · refine (r_aload_n rfl rfl rfl).trans ?_
    refine (r_getR (ci := 10) (sl := 0) s_E rfl rfl rfl rfl (by decide) rfl rfl).trans ?_
    refine (r_iload_n rfl rfl rfl).trans ?_
    refine (r_aload_n rfl rfl rfl).trans ?_
    refine (r_getR (ci := 10) (sl := 1) s_E rfl rfl rfl rfl (by decide) rfl rfl).trans ?_
    refine (r_iload_n rfl rfl rfl).trans ?_
    refine (r_iald rfl rfl rfl (by decide) (b0 h_0)).trans ?_
    refine (r_iast rfl rfl rfl (by decide) (b0 h_0)).trans ?_
    refine (r_iinc (y := 1) rfl rfl rfl rfl rfl rfl).trans ?_
    refine (r_goto rfl rfl).trans ?_
    exact rfl
  · refine (r_aload_n rfl rfl rfl).trans ?_
    refine (r_getR (ci := 10) (sl := 0) s_E rfl rfl rfl rfl (by decide) rfl rfl).trans ?_
    refine (r_iconst (v := 4) rfl rfl rfl).trans ?_
    refine (r_iald rfl rfl rfl (by decide) (by decide)).trans ?_
    exact r_iret rfl rfl

theorem en_X10_tell {d : Nat} {E : pEv} {ro : Nat → Nat → Int32} {Q : Option Value → pH → Prop} (s_E : oE E) {x1 : Int32} (b0 : (¬ (ro 102 6) = 20) → (¬ (92 + (ro 102 6)) < 0 ∧ (92 + (ro 102 6)).toNatClampNeg < 264)) : wX (d + 1) 242 [.ref 101, .int x1] (mkH E ro) Q = (if (ro 102 6) = 20 then wX d 153 [.ref 101, .int 4] (mkH E ro) (fun v h' => wG d 242 (17, [.ref 101, .int x1], pv v [], h') Q) else Q (some (.int ((uI (uI ro 102 (92 + (ro 102 6)).toNatClampNeg x1) 102 6 (((uI ro 102 (92 + (ro 102 6)).toNatClampNeg x1) 102 6) + 1)) 102 6))) (mkH E (uI (uI ro 102 (92 + (ro 102 6)).toNatClampNeg x1) 102 6 (((uI ro 102 (92 + (ro 102 6)).toNatClampNeg x1) 102 6) + 1)))) := by
  refine (wX_in rfl (by decide)).trans ?_
  show wG d 242 (0, [.ref 101, .int x1], [], mkH E ro) Q = _
  refine (r_aload_n rfl rfl rfl).trans ?_
  refine (r_getR (ci := 10) (sl := 0) s_E rfl rfl rfl rfl (by decide) rfl rfl).trans ?_
  refine (r_bipush (v := 6) rfl rfl rfl).trans ?_
  refine (r_iald rfl rfl rfl (by decide) (by decide)).trans ?_
  refine (r_bipush (v := 20) rfl rfl rfl).trans ?_
  refine (r_icmp_ne rfl rfl rfl).trans ?_
  refine ite_congr rfl (fun h_0 => ?_) (fun h_0 => ?_)
  · refine (r_aload_n rfl rfl rfl).trans ?_
    refine (r_iconst (v := 4) rfl rfl rfl).trans ?_
    exact r_inv (m := 153) (c := 10) rfl rfl rfl rfl rfl rfl rfl rfl
  · refine (r_aload_n rfl rfl rfl).trans ?_
    refine (r_getR (ci := 10) (sl := 0) s_E rfl rfl rfl rfl (by decide) rfl rfl).trans ?_
    refine (r_bipush (v := 92) rfl rfl rfl).trans ?_
    refine (r_aload_n rfl rfl rfl).trans ?_
    refine (r_getR (ci := 10) (sl := 0) s_E rfl rfl rfl rfl (by decide) rfl rfl).trans ?_
    refine (r_bipush (v := 6) rfl rfl rfl).trans ?_
    refine (r_iald rfl rfl rfl (by decide) (by decide)).trans ?_
    refine (r_iadd rfl rfl).trans ?_
    refine (r_iload_n rfl rfl rfl).trans ?_
    refine (r_iast rfl rfl rfl (by decide) (b0 h_0)).trans ?_
    refine (r_aload_n rfl rfl rfl).trans ?_
    refine (r_getR (ci := 10) (sl := 0) s_E rfl rfl rfl rfl (by decide) rfl rfl).trans ?_
    refine (r_bipush (v := 6) rfl rfl rfl).trans ?_
    refine (r_dup2 rfl rfl).trans ?_
    refine (r_iald rfl rfl rfl (by decide) (by decide)).trans ?_
    refine (r_iconst (v := 1) rfl rfl rfl).trans ?_
    refine (r_iadd rfl rfl).trans ?_
    refine (r_iast rfl rfl rfl (by decide) (by decide)).trans ?_
    refine (r_aload_n rfl rfl rfl).trans ?_
    refine (r_getR (ci := 10) (sl := 0) s_E rfl rfl rfl rfl (by decide) rfl rfl).trans ?_
    refine (r_bipush (v := 6) rfl rfl rfl).trans ?_
    refine (r_iald rfl rfl rfl (by decide) (by decide)).trans ?_
    exact r_iret rfl rfl

theorem sg_X10_tell_17 {d : Nat} {E : pEv} {ro : Nat → Nat → Int32} {Q : Option Value → pH → Prop} (s_E : oE E) {x1 : Int32} {xs0 : Int32} : wG d 242 (17, [.ref 101, .int x1], [.int xs0], mkH E ro) Q = Q (some (.int xs0)) (mkH E ro) := by
  exact r_iret rfl rfl

theorem en_X10_check {d : Nat} {E : pEv} {ro : Nat → Nat → Int32} {Q : Option Value → pH → Prop} (s_E : oE E) : wX (d + 1) 243 [.ref 101] (mkH E ro) Q = wG d 243 (18, [.ref 101, .int (ro 102 6), .int 0], [], mkH E (uI ro 102 6 0)) Q := by
  refine (wX_in rfl (by decide)).trans ?_
  show wG d 243 (0, [.ref 101, .retAddr 0, .retAddr 0], [], mkH E ro) Q = _
  refine (r_aload_n rfl rfl rfl).trans ?_
  refine (r_getR (ci := 10) (sl := 0) s_E rfl rfl rfl rfl (by decide) rfl rfl).trans ?_
  refine (r_bipush (v := 6) rfl rfl rfl).trans ?_
  refine (r_iald rfl rfl rfl (by decide) (by decide)).trans ?_
  refine (r_istore_n rfl rfl rfl rfl).trans ?_
  refine (r_aload_n rfl rfl rfl).trans ?_
  refine (r_getR (ci := 10) (sl := 0) s_E rfl rfl rfl rfl (by decide) rfl rfl).trans ?_
  refine (r_bipush (v := 6) rfl rfl rfl).trans ?_
  refine (r_iconst (v := 0) rfl rfl rfl).trans ?_
  refine (r_iast rfl rfl rfl (by decide) (by decide)).trans ?_
  refine (r_iconst (v := 0) rfl rfl rfl).trans ?_
  refine (r_istore_n rfl rfl rfl rfl).trans ?_
  exact rfl

theorem sg_X10_check_18 {d : Nat} {E : pEv} {ro : Nat → Nat → Int32} {Q : Option Value → pH → Prop} (s_E : oE E) {x1 : Int32} {x2 : Int32} (b0 : (x2 < x1) → (x2 < (ro 102 0)) → (¬ (92 + x2) < 0 ∧ (92 + x2).toNatClampNeg < 264)) : wG d 243 (18, [.ref 101, .int x1, .int x2], [], mkH E ro) Q = (if x2 < x1 then (if x2 < (ro 102 0) then wX d 200 [.ref 101, .int x2] (mkH E ro) (fun v h' => wG d 243 (47, [.ref 101, .int x1, .int x2], pv v [.int (ro 102 (92 + x2).toNatClampNeg)], h') Q) else Q (some (.int (1 + x2))) (mkH E ro)) else Q (some (.int 0)) (mkH E ro)) := by
  refine (r_iload_n rfl rfl rfl).trans ?_
  refine (r_iload_n rfl rfl rfl).trans ?_
  refine (r_icmp_ge rfl rfl rfl).trans ?_
  refine ite_congr rfl (fun h_0 => ?_) (fun h_0 => ?_)
  · refine (r_iload_n rfl rfl rfl).trans ?_
    refine (r_aload_n rfl rfl rfl).trans ?_
    refine (r_getR (ci := 10) (sl := 0) s_E rfl rfl rfl rfl (by decide) rfl rfl).trans ?_
    refine (r_iconst (v := 0) rfl rfl rfl).trans ?_
    refine (r_iald rfl rfl rfl (by decide) (by decide)).trans ?_
    refine (r_icmp_ge rfl rfl rfl).trans ?_
    refine ite_congr rfl (fun h_1 => ?_) (fun h_1 => ?_)
    · refine (r_aload_n rfl rfl rfl).trans ?_
      refine (r_getR (ci := 10) (sl := 0) s_E rfl rfl rfl rfl (by decide) rfl rfl).trans ?_
      refine (r_bipush (v := 92) rfl rfl rfl).trans ?_
      refine (r_iload_n rfl rfl rfl).trans ?_
      refine (r_iadd rfl rfl).trans ?_
      refine (r_iald rfl rfl rfl (by decide) (b0 h_0 h_1)).trans ?_
      refine (r_aload_n rfl rfl rfl).trans ?_
      refine (r_iload_n rfl rfl rfl).trans ?_
      exact r_inv (m := 200) (c := 10) rfl rfl rfl rfl rfl rfl rfl rfl
    · refine (r_iconst (v := 1) rfl rfl rfl).trans ?_
      refine (r_iload_n rfl rfl rfl).trans ?_
      refine (r_iadd rfl rfl).trans ?_
      exact r_iret rfl rfl
  · refine (r_iconst (v := 0) rfl rfl rfl).trans ?_
    exact r_iret rfl rfl

theorem sg_X10_check_47 {d : Nat} {E : pEv} {ro : Nat → Nat → Int32} {Q : Option Value → pH → Prop} (s_E : oE E) {x1 : Int32} {x2 : Int32} {xs0 : Int32} {xs1 : Int32} : wG d 243 (47, [.ref 101, .int x1, .int x2], [.int xs1, .int xs0], mkH E ro) Q = (if xs0 = xs1 then wG d 243 (18, [.ref 101, .int x1, .int (x2 + 1)], [], mkH E ro) Q else Q (some (.int (1 + x2))) (mkH E ro)) := by
  refine (r_icmp_eq rfl rfl rfl).trans ?_
  refine ite_congr rfl (fun h_0 => ?_) (fun h_0 => ?_)
  · refine (r_iinc (y := 1) rfl rfl rfl rfl rfl rfl).trans ?_
    refine (r_goto rfl rfl).trans ?_
    exact rfl
  · refine (r_iconst (v := 1) rfl rfl rfl).trans ?_
    refine (r_iload_n rfl rfl rfl).trans ?_
    refine (r_iadd rfl rfl).trans ?_
    exact r_iret rfl rfl

theorem en_X10_longOfAll {d : Nat} {E : pEv} {ro : Nat → Nat → Int32} {Q : Option Value → pH → Prop} (s_E : oE E) : wX (d + 1) 244 [.ref 101] (mkH E ro) Q = wG d 244 (4, [.ref 101, .int 0, .int 0], [], mkH E ro) Q := by
  refine (wX_in rfl (by decide)).trans ?_
  show wG d 244 (0, [.ref 101, .retAddr 0, .retAddr 0], [], mkH E ro) Q = _
  refine (r_iconst (v := 0) rfl rfl rfl).trans ?_
  refine (r_istore_n rfl rfl rfl rfl).trans ?_
  refine (r_iconst (v := 0) rfl rfl rfl).trans ?_
  refine (r_istore_n rfl rfl rfl rfl).trans ?_
  exact rfl

theorem sg_X10_longOfAll_4 {d : Nat} {E : pEv} {ro : Nat → Nat → Int32} {Q : Option Value → pH → Prop} (s_E : oE E) {x1 : Int32} {x2 : Int32} : wG d 244 (4, [.ref 101, .int x1, .int x2], [], mkH E ro) Q = (if x2 < (ro 102 0) then wX d 157 [.ref 101, .int x2, .int 3] (mkH E ro) (fun v h' => wG d 244 (21, [.ref 101, .int x1, .int x2], pv v [.int x1], h') Q) else Q (some (.int x1)) (mkH E ro)) := by
  refine (r_iload_n rfl rfl rfl).trans ?_
  refine (r_aload_n rfl rfl rfl).trans ?_
  refine (r_getR (ci := 10) (sl := 0) s_E rfl rfl rfl rfl (by decide) rfl rfl).trans ?_
  refine (r_iconst (v := 0) rfl rfl rfl).trans ?_
  refine (r_iald rfl rfl rfl (by decide) (by decide)).trans ?_
  refine (r_icmp_ge rfl rfl rfl).trans ?_
  refine ite_congr rfl (fun h_0 => ?_) (fun h_0 => ?_)
  · refine (r_iload_n rfl rfl rfl).trans ?_
    refine (r_aload_n rfl rfl rfl).trans ?_
    refine (r_iload_n rfl rfl rfl).trans ?_
    refine (r_iconst (v := 3) rfl rfl rfl).trans ?_
    exact r_inv (m := 157) (c := 10) rfl rfl rfl rfl rfl rfl rfl rfl
  · refine (r_iload_n rfl rfl rfl).trans ?_
    exact r_iret rfl rfl

theorem sg_X10_longOfAll_21 {d : Nat} {E : pEv} {ro : Nat → Nat → Int32} {Q : Option Value → pH → Prop} (s_E : oE E) {x1 : Int32} {x2 : Int32} {xs0 : Int32} {xs1 : Int32} : wG d 244 (21, [.ref 101, .int x1, .int x2], [.int xs1, .int xs0], mkH E ro) Q = wG d 244 (4, [.ref 101, .int (xs0 + xs1), .int (x2 + 1)], [], mkH E ro) Q := by
  refine (r_iadd rfl rfl).trans ?_
  refine (r_istore_n rfl rfl rfl rfl).trans ?_
  refine (r_iinc (y := 1) rfl rfl rfl rfl rfl rfl).trans ?_
  refine (r_goto rfl rfl).trans ?_
  exact rfl

theorem en_X10_count {d : Nat} {E : pEv} {ro : Nat → Nat → Int32} {Q : Option Value → pH → Prop} (s_E : oE E) {x1 : Int32} : wX (d + 1) 245 [.ref 101, .int x1] (mkH E ro) Q = (if x1 = 0 then Q (some (.int (ro 102 0))) (mkH E ro) else (if x1 = 1 then wX d 193 [.ref 101] (mkH E ro) (fun v h' => wG d 245 (75, [.ref 101, .int x1], pv v [], h') Q) else (if x1 = 2 then wX d 194 [.ref 101] (mkH E ro) (fun v h' => wG d 245 (80, [.ref 101, .int x1], pv v [], h') Q) else (if x1 = 3 then wX d 195 [.ref 101] (mkH E ro) (fun v h' => wG d 245 (85, [.ref 101, .int x1], pv v [], h') Q) else (if x1 = 4 then Q (some (.int (ro 102 2))) (mkH E ro) else (if x1 = 5 then Q (some (.int (ro 102 3))) (mkH E ro) else (if x1 = 6 then Q (some (.int (ro 102 4))) (mkH E ro) else (if x1 = 7 then wX d 244 [.ref 101] (mkH E ro) (fun v h' => wG d 245 (111, [.ref 101, .int x1], pv v [], h') Q) else (if x1 = 8 then Q (some (.int (ro 102 5))) (mkH E ro) else (if x1 = 9 then Q (some (.int (ro 102 6))) (mkH E ro) else (if x1 = 10 then Q (some (.int (ro 101 19))) (mkH E ro) else (if x1 = 11 then Q (some (.int (ro 102 1))) (mkH E ro) else wX d 153 [.ref 101, .int 1] (mkH E ro) (fun v h' => wG d 245 (144, [.ref 101, .int x1], pv v [], h') Q))))))))))))) := by
  refine (wX_in rfl (by decide)).trans ?_
  show wG d 245 (0, [.ref 101, .int x1], [], mkH E ro) Q = _
  refine (r_iload_n rfl rfl rfl).trans ?_
  refine (r_sw (i := (138, 0, 11)) rfl rfl).trans ?_
  refine (r_swc (y := 0) rfl).trans ?_
  refine ite_congr rfl (fun h_0 => ?_) (fun h_0 => ?_)
  · refine (r_aload_n rfl rfl rfl).trans ?_
    refine (r_getR (ci := 10) (sl := 0) s_E rfl rfl rfl rfl (by decide) rfl rfl).trans ?_
    refine (r_iconst (v := 0) rfl rfl rfl).trans ?_
    refine (r_iald rfl rfl rfl (by decide) (by decide)).trans ?_
    exact r_iret rfl rfl
  · refine (r_swc (y := 1) rfl).trans ?_
    refine ite_congr rfl (fun h_1 => ?_) (fun h_1 => ?_)
    · refine (r_aload_n rfl rfl rfl).trans ?_
      exact r_inv (m := 193) (c := 10) rfl rfl rfl rfl rfl rfl rfl rfl
    · refine (r_swc (y := 2) rfl).trans ?_
      refine ite_congr rfl (fun h_2 => ?_) (fun h_2 => ?_)
      · refine (r_aload_n rfl rfl rfl).trans ?_
        exact r_inv (m := 194) (c := 10) rfl rfl rfl rfl rfl rfl rfl rfl
      · refine (r_swc (y := 3) rfl).trans ?_
        refine ite_congr rfl (fun h_3 => ?_) (fun h_3 => ?_)
        · refine (r_aload_n rfl rfl rfl).trans ?_
          exact r_inv (m := 195) (c := 10) rfl rfl rfl rfl rfl rfl rfl rfl
        · refine (r_swc (y := 4) rfl).trans ?_
          refine ite_congr rfl (fun h_4 => ?_) (fun h_4 => ?_)
          · refine (r_aload_n rfl rfl rfl).trans ?_
            refine (r_getR (ci := 10) (sl := 0) s_E rfl rfl rfl rfl (by decide) rfl rfl).trans ?_
            refine (r_iconst (v := 2) rfl rfl rfl).trans ?_
            refine (r_iald rfl rfl rfl (by decide) (by decide)).trans ?_
            exact r_iret rfl rfl
          · refine (r_swc (y := 5) rfl).trans ?_
            refine ite_congr rfl (fun h_5 => ?_) (fun h_5 => ?_)
            · refine (r_aload_n rfl rfl rfl).trans ?_
              refine (r_getR (ci := 10) (sl := 0) s_E rfl rfl rfl rfl (by decide) rfl rfl).trans ?_
              refine (r_iconst (v := 3) rfl rfl rfl).trans ?_
              refine (r_iald rfl rfl rfl (by decide) (by decide)).trans ?_
              exact r_iret rfl rfl
            · refine (r_swc (y := 6) rfl).trans ?_
              refine ite_congr rfl (fun h_6 => ?_) (fun h_6 => ?_)
              · refine (r_aload_n rfl rfl rfl).trans ?_
                refine (r_getR (ci := 10) (sl := 0) s_E rfl rfl rfl rfl (by decide) rfl rfl).trans ?_
                refine (r_iconst (v := 4) rfl rfl rfl).trans ?_
                refine (r_iald rfl rfl rfl (by decide) (by decide)).trans ?_
                exact r_iret rfl rfl
              · refine (r_swc (y := 7) rfl).trans ?_
                refine ite_congr rfl (fun h_7 => ?_) (fun h_7 => ?_)
                · refine (r_aload_n rfl rfl rfl).trans ?_
                  exact r_inv (m := 244) (c := 10) rfl rfl rfl rfl rfl rfl rfl rfl
                · refine (r_swc (y := 8) rfl).trans ?_
                  refine ite_congr rfl (fun h_8 => ?_) (fun h_8 => ?_)
                  · refine (r_aload_n rfl rfl rfl).trans ?_
                    refine (r_getR (ci := 10) (sl := 0) s_E rfl rfl rfl rfl (by decide) rfl rfl).trans ?_
                    refine (r_iconst (v := 5) rfl rfl rfl).trans ?_
                    refine (r_iald rfl rfl rfl (by decide) (by decide)).trans ?_
                    exact r_iret rfl rfl
                  · refine (r_swc (y := 9) rfl).trans ?_
                    refine ite_congr rfl (fun h_9 => ?_) (fun h_9 => ?_)
                    · refine (r_aload_n rfl rfl rfl).trans ?_
                      refine (r_getR (ci := 10) (sl := 0) s_E rfl rfl rfl rfl (by decide) rfl rfl).trans ?_
                      refine (r_bipush (v := 6) rfl rfl rfl).trans ?_
                      refine (r_iald rfl rfl rfl (by decide) (by decide)).trans ?_
                      exact r_iret rfl rfl
                    · refine (r_swc (y := 10) rfl).trans ?_
                      refine ite_congr rfl (fun h_10 => ?_) (fun h_10 => ?_)
                      · refine (r_aload_n rfl rfl rfl).trans ?_
                        refine (r_getI (ci := 10) (sl := 19) rfl rfl rfl rfl (by decide)).trans ?_
                        exact r_iret rfl rfl
                      · refine (r_swc (y := 11) rfl).trans ?_
                        refine ite_congr rfl (fun h_11 => ?_) (fun h_11 => ?_)
                        · refine (r_aload_n rfl rfl rfl).trans ?_
                          refine (r_getR (ci := 10) (sl := 0) s_E rfl rfl rfl rfl (by decide) rfl rfl).trans ?_
                          refine (r_iconst (v := 1) rfl rfl rfl).trans ?_
                          refine (r_iald rfl rfl rfl (by decide) (by decide)).trans ?_
                          exact r_iret rfl rfl
                        · refine r_swn.trans ?_
                          refine (r_aload_n rfl rfl rfl).trans ?_
                          refine (r_iconst (v := 1) rfl rfl rfl).trans ?_
                          exact r_inv (m := 153) (c := 10) rfl rfl rfl rfl rfl rfl rfl rfl

theorem sg_X10_count_75 {d : Nat} {E : pEv} {ro : Nat → Nat → Int32} {Q : Option Value → pH → Prop} (s_E : oE E) {x1 : Int32} {xs0 : Int32} : wG d 245 (75, [.ref 101, .int x1], [.int xs0], mkH E ro) Q = Q (some (.int xs0)) (mkH E ro) := by
  exact r_iret rfl rfl

theorem sg_X10_count_80 {d : Nat} {E : pEv} {ro : Nat → Nat → Int32} {Q : Option Value → pH → Prop} (s_E : oE E) {x1 : Int32} {xs0 : Int32} : wG d 245 (80, [.ref 101, .int x1], [.int xs0], mkH E ro) Q = Q (some (.int xs0)) (mkH E ro) := by
  exact r_iret rfl rfl

theorem sg_X10_count_85 {d : Nat} {E : pEv} {ro : Nat → Nat → Int32} {Q : Option Value → pH → Prop} (s_E : oE E) {x1 : Int32} {xs0 : Int32} : wG d 245 (85, [.ref 101, .int x1], [.int xs0], mkH E ro) Q = Q (some (.int xs0)) (mkH E ro) := by
  exact r_iret rfl rfl

theorem sg_X10_count_111 {d : Nat} {E : pEv} {ro : Nat → Nat → Int32} {Q : Option Value → pH → Prop} (s_E : oE E) {x1 : Int32} {xs0 : Int32} : wG d 245 (111, [.ref 101, .int x1], [.int xs0], mkH E ro) Q = Q (some (.int xs0)) (mkH E ro) := by
  exact r_iret rfl rfl

theorem sg_X10_count_144 {d : Nat} {E : pEv} {ro : Nat → Nat → Int32} {Q : Option Value → pH → Prop} (s_E : oE E) {x1 : Int32} {xs0 : Int32} : wG d 245 (144, [.ref 101, .int x1], [.int xs0], mkH E ro) Q = Q (some (.int xs0)) (mkH E ro) := by
  exact r_iret rfl rfl

theorem en_X10_told {d : Nat} {E : pEv} {ro : Nat → Nat → Int32} {Q : Option Value → pH → Prop} (s_E : oE E) {x1 : Int32} : wX (d + 1) 246 [.ref 101, .int x1] (mkH E ro) Q = wX d 154 [.long x1.toInt64, .long 1, .long 5] (mkH E ro) (fun v h' => wG d 246 (9, [.ref 101, .int x1], pv v [], h') Q) := by
  refine (wX_in rfl (by decide)).trans ?_
  show wG d 246 (0, [.ref 101, .int x1], [], mkH E ro) Q = _
  refine (r_iload_n rfl rfl rfl).trans ?_
  refine (r_i2l rfl rfl).trans ?_
  refine (r_lconst (w := 1) rfl rfl rfl).trans ?_
  refine (r_ldc2_w (w := 5) rfl rfl rfl).trans ?_
  exact r_ins (m := 154) rfl rfl rfl rfl rfl rfl

theorem sg_X10_told_9 {d : Nat} {E : pEv} {ro : Nat → Nat → Int32} {Q : Option Value → pH → Prop} (s_E : oE E) {x1 : Int32} {xs0 : Int32} (b0 : (¬ xs0 = 0) → (¬ x1 < 0 ∧ x1.toNatClampNeg < 6)) : wG d 246 (9, [.ref 101, .int x1], [.int xs0], mkH E ro) Q = (if xs0 = 0 then wX d 153 [.ref 101, .int 1] (mkH E ro) (fun v h' => wG d 246 (26, [.ref 101, .int x1], pv v [], h') Q) else Q (some (.int (ro 104 x1.toNatClampNeg))) (mkH E ro)) := by
  refine (r_if_eq rfl rfl rfl).trans ?_
  refine ite_congr rfl (fun h_0 => ?_) (fun h_0 => ?_)
  · refine (r_aload_n rfl rfl rfl).trans ?_
    refine (r_iconst (v := 1) rfl rfl rfl).trans ?_
    exact r_inv (m := 153) (c := 10) rfl rfl rfl rfl rfl rfl rfl rfl
  · refine (r_aload_n rfl rfl rfl).trans ?_
    refine (r_getR (ci := 10) (sl := 3) s_E rfl rfl rfl rfl (by decide) rfl rfl).trans ?_
    refine (r_iload_n rfl rfl rfl).trans ?_
    refine (r_iald rfl rfl rfl (by decide) (b0 h_0)).trans ?_
    refine (r_goto rfl rfl).trans ?_
    exact r_iret rfl rfl

theorem sg_X10_told_26 {d : Nat} {E : pEv} {ro : Nat → Nat → Int32} {Q : Option Value → pH → Prop} (s_E : oE E) {x1 : Int32} {xs0 : Int32} : wG d 246 (26, [.ref 101, .int x1], [.int xs0], mkH E ro) Q = Q (some (.int xs0)) (mkH E ro) := by
  exact r_iret rfl rfl
