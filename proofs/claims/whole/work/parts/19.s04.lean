theorem en_X4_at {d : Nat} {E : pEv} {ro : Nat → Nat → Int32} {Q : Option Value → pH → Prop} (s_E : oE E) {r0 c_h0 : Nat} (h0 : oRow r0 c_h0) {x1 : Int32} : wX (d + 1) 57 [.ref r0, .int x1] (mkH E ro) Q = (if x1 < 0 then Q (some (.int 0)) (mkH E ro) else (if x1 < (ro r0 1) then (if x1 < (Int32.ofNat c_h0) then Q (some (.int (ro (r0 + 1) x1.toNatClampNeg))) (mkH E ro) else Q (some (.int 0)) (mkH E ro)) else Q (some (.int 0)) (mkH E ro))) := by
  refine (wX_in rfl (by decide)).trans ?_
  show wG d 57 (0, [.ref r0, .int x1], [], mkH E ro) Q = _
  refine (r_iload_n rfl rfl rfl).trans ?_
  refine (r_if_lt rfl rfl rfl).trans ?_
  refine ite_congr rfl (fun h_0 => ?_) (fun h_0 => ?_)
  · refine (r_iconst (v := 0) rfl rfl rfl).trans ?_
    exact r_iret rfl rfl
  · refine (r_iload_n rfl rfl rfl).trans ?_
    refine (r_aload_n rfl rfl rfl).trans ?_
    refine (r_getI (ci := 4) (sl := 1) rfl rfl rfl h0.2.1 h0.1).trans ?_
    refine (r_icmp_ge rfl rfl rfl).trans ?_
    refine ite_congr rfl (fun h_1 => ?_) (fun h_1 => ?_)
    · refine (r_iload_n rfl rfl rfl).trans ?_
      refine (r_aload_n rfl rfl rfl).trans ?_
      refine (r_getR (ci := 4) (sl := 0) s_E rfl rfl rfl h0.2.1 h0.1 h0.2.2.1 (n81 h0.2.1 (by decide))).trans ?_
      refine (r_alen (v := Int32.ofNat c_h0) rfl rfl h0.2.2.2 (ne9 (Nat.le_succ_of_le h0.1)) (by decide) rfl).trans ?_
      refine (r_icmp_ge rfl rfl rfl).trans ?_
      refine ite_congr rfl (fun h_2 => ?_) (fun h_2 => ?_)
      · refine (r_aload_n rfl rfl rfl).trans ?_
        refine (r_getR (ci := 4) (sl := 0) s_E rfl rfl rfl h0.2.1 h0.1 h0.2.2.1 (n81 h0.2.1 (by decide))).trans ?_
        refine (r_iload_n rfl rfl rfl).trans ?_
        refine (r_iald rfl rfl h0.2.2.2 (Nat.le_succ_of_le h0.1) (ixR (capB h0.2.2.2) h_0 h_2)).trans ?_
        refine (r_goto rfl rfl).trans ?_
        exact r_iret rfl rfl
      · refine (r_iconst (v := 0) rfl rfl rfl).trans ?_
        exact r_iret rfl rfl
    · refine (r_iconst (v := 0) rfl rfl rfl).trans ?_
      exact r_iret rfl rfl

theorem en_X4_change {d : Nat} {E : pEv} {ro : Nat → Nat → Int32} {Q : Option Value → pH → Prop} (s_E : oE E) {r0 c_h0 : Nat} (h0 : oRow r0 c_h0) {x1 : Int32} {x2 : Int32} : wX (d + 1) 58 [.ref r0, .int x1, .int x2] (mkH E ro) Q = (if x1 < 0 then Q none (mkH E ro) else (if x1 < (ro r0 1) then (if x1 < (Int32.ofNat c_h0) then Q none (mkH E (uI ro (r0 + 1) x1.toNatClampNeg x2)) else Q none (mkH E ro)) else Q none (mkH E ro))) := by
  refine (wX_in rfl (by decide)).trans ?_
  show wG d 58 (0, [.ref r0, .int x1, .int x2], [], mkH E ro) Q = _
  refine (r_iload_n rfl rfl rfl).trans ?_
  refine (r_if_lt rfl rfl rfl).trans ?_
  refine ite_congr rfl (fun h_0 => ?_) (fun h_0 => ?_)
  · exact r_vret rfl rfl
  · refine (r_iload_n rfl rfl rfl).trans ?_
    refine (r_aload_n rfl rfl rfl).trans ?_
    refine (r_getI (ci := 4) (sl := 1) rfl rfl rfl h0.2.1 h0.1).trans ?_
    refine (r_icmp_ge rfl rfl rfl).trans ?_
    refine ite_congr rfl (fun h_1 => ?_) (fun h_1 => ?_)
    · refine (r_iload_n rfl rfl rfl).trans ?_
      refine (r_aload_n rfl rfl rfl).trans ?_
      refine (r_getR (ci := 4) (sl := 0) s_E rfl rfl rfl h0.2.1 h0.1 h0.2.2.1 (n81 h0.2.1 (by decide))).trans ?_
      refine (r_alen (v := Int32.ofNat c_h0) rfl rfl h0.2.2.2 (ne9 (Nat.le_succ_of_le h0.1)) (by decide) rfl).trans ?_
      refine (r_icmp_ge rfl rfl rfl).trans ?_
      refine ite_congr rfl (fun h_2 => ?_) (fun h_2 => ?_)
      · refine (r_aload_n rfl rfl rfl).trans ?_
        refine (r_getR (ci := 4) (sl := 0) s_E rfl rfl rfl h0.2.1 h0.1 h0.2.2.1 (n81 h0.2.1 (by decide))).trans ?_
        refine (r_iload_n rfl rfl rfl).trans ?_
        refine (r_iload_n rfl rfl rfl).trans ?_
        refine (r_iast rfl rfl h0.2.2.2 (Nat.le_succ_of_le h0.1) (ixR (capB h0.2.2.2) h_0 h_2)).trans ?_
        exact r_vret rfl rfl
      · exact r_vret rfl rfl
    · exact r_vret rfl rfl

theorem en_X4_add {d : Nat} {E : pEv} {ro : Nat → Nat → Int32} {Q : Option Value → pH → Prop} (s_E : oE E) {r0 c_h0 : Nat} (h0 : oRow r0 c_h0) {x1 : Int32} : wX (d + 1) 59 [.ref r0, .int x1] (mkH E ro) Q = (if (ro r0 1) < 0 then Q none (mkH E ro) else (if (ro r0 1) < (Int32.ofNat c_h0) then Q none (mkH E (uI (uI ro (r0 + 1) (ro r0 1).toNatClampNeg x1) r0 1 (((uI ro (r0 + 1) (ro r0 1).toNatClampNeg x1) r0 1) + 1))) else Q none (mkH E ro))) := by
  refine (wX_in rfl (by decide)).trans ?_
  show wG d 59 (0, [.ref r0, .int x1], [], mkH E ro) Q = _
  refine (r_aload_n rfl rfl rfl).trans ?_
  refine (r_getI (ci := 4) (sl := 1) rfl rfl rfl h0.2.1 h0.1).trans ?_
  refine (r_if_lt rfl rfl rfl).trans ?_
  refine ite_congr rfl (fun h_0 => ?_) (fun h_0 => ?_)
  · exact r_vret rfl rfl
  · refine (r_aload_n rfl rfl rfl).trans ?_
    refine (r_getI (ci := 4) (sl := 1) rfl rfl rfl h0.2.1 h0.1).trans ?_
    refine (r_aload_n rfl rfl rfl).trans ?_
    refine (r_getR (ci := 4) (sl := 0) s_E rfl rfl rfl h0.2.1 h0.1 h0.2.2.1 (n81 h0.2.1 (by decide))).trans ?_
    refine (r_alen (v := Int32.ofNat c_h0) rfl rfl h0.2.2.2 (ne9 (Nat.le_succ_of_le h0.1)) (by decide) rfl).trans ?_
    refine (r_icmp_ge rfl rfl rfl).trans ?_
    refine ite_congr rfl (fun h_1 => ?_) (fun h_1 => ?_)
    · refine (r_aload_n rfl rfl rfl).trans ?_
      refine (r_getR (ci := 4) (sl := 0) s_E rfl rfl rfl h0.2.1 h0.1 h0.2.2.1 (n81 h0.2.1 (by decide))).trans ?_
      refine (r_aload_n rfl rfl rfl).trans ?_
      refine (r_getI (ci := 4) (sl := 1) rfl rfl rfl h0.2.1 h0.1).trans ?_
      refine (r_iload_n rfl rfl rfl).trans ?_
      refine (r_iast rfl rfl h0.2.2.2 (Nat.le_succ_of_le h0.1) (ixR (capB h0.2.2.2) h_0 h_1)).trans ?_
      refine (r_aload_n rfl rfl rfl).trans ?_
      refine (r_dupR rfl rfl).trans ?_
      refine (r_getI (ci := 4) (sl := 1) rfl rfl rfl h0.2.1 h0.1).trans ?_
      refine (r_iconst (v := 1) rfl rfl rfl).trans ?_
      refine (r_iadd rfl rfl).trans ?_
      refine (r_putI (ci := 4) (sl := 1) rfl rfl rfl h0.2.1 h0.1).trans ?_
      exact r_vret rfl rfl
    · exact r_vret rfl rfl

theorem en_X4_takeLast {d : Nat} {E : pEv} {ro : Nat → Nat → Int32} {Q : Option Value → pH → Prop} (s_E : oE E) {r0 c_h0 : Nat} (h0 : oRow r0 c_h0) (b0 : (¬ (ro r0 1) < 1) → (¬ (Int32.ofNat c_h0) < (ro r0 1)) → (¬ ((uI ro r0 1 ((ro r0 1) - 1)) r0 1) < 0 ∧ ((uI ro r0 1 ((ro r0 1) - 1)) r0 1).toNatClampNeg < c_h0)) : wX (d + 1) 60 [.ref r0] (mkH E ro) Q = (if (ro r0 1) < 1 then Q (some (.int 0)) (mkH E ro) else (if (Int32.ofNat c_h0) < (ro r0 1) then Q (some (.int 0)) (mkH E ro) else Q (some (.int ((uI ro r0 1 ((ro r0 1) - 1)) (r0 + 1) ((uI ro r0 1 ((ro r0 1) - 1)) r0 1).toNatClampNeg))) (mkH E (uI ro r0 1 ((ro r0 1) - 1))))) := by
  refine (wX_in rfl (by decide)).trans ?_
  show wG d 60 (0, [.ref r0], [], mkH E ro) Q = _
  refine (r_aload_n rfl rfl rfl).trans ?_
  refine (r_getI (ci := 4) (sl := 1) rfl rfl rfl h0.2.1 h0.1).trans ?_
  refine (r_iconst (v := 1) rfl rfl rfl).trans ?_
  refine (r_icmp_lt rfl rfl rfl).trans ?_
  refine ite_congr rfl (fun h_0 => ?_) (fun h_0 => ?_)
  · refine (r_iconst (v := 0) rfl rfl rfl).trans ?_
    exact r_iret rfl rfl
  · refine (r_aload_n rfl rfl rfl).trans ?_
    refine (r_getI (ci := 4) (sl := 1) rfl rfl rfl h0.2.1 h0.1).trans ?_
    refine (r_aload_n rfl rfl rfl).trans ?_
    refine (r_getR (ci := 4) (sl := 0) s_E rfl rfl rfl h0.2.1 h0.1 h0.2.2.1 (n81 h0.2.1 (by decide))).trans ?_
    refine (r_alen (v := Int32.ofNat c_h0) rfl rfl h0.2.2.2 (ne9 (Nat.le_succ_of_le h0.1)) (by decide) rfl).trans ?_
    refine (r_icmp_le rfl rfl rfl).trans ?_
    refine ite_congr rfl (fun h_1 => ?_) (fun h_1 => ?_)
    · refine (r_iconst (v := 0) rfl rfl rfl).trans ?_
      exact r_iret rfl rfl
    · refine (r_aload_n rfl rfl rfl).trans ?_
      refine (r_dupR rfl rfl).trans ?_
      refine (r_getI (ci := 4) (sl := 1) rfl rfl rfl h0.2.1 h0.1).trans ?_
      refine (r_iconst (v := 1) rfl rfl rfl).trans ?_
      refine (r_isub rfl rfl).trans ?_
      refine (r_putI (ci := 4) (sl := 1) rfl rfl rfl h0.2.1 h0.1).trans ?_
      refine (r_aload_n rfl rfl rfl).trans ?_
      refine (r_getR (ci := 4) (sl := 0) s_E rfl rfl rfl h0.2.1 h0.1 h0.2.2.1 (n81 h0.2.1 (by decide))).trans ?_
      refine (r_aload_n rfl rfl rfl).trans ?_
      refine (r_getI (ci := 4) (sl := 1) rfl rfl rfl h0.2.1 h0.1).trans ?_
      refine (r_iald rfl rfl h0.2.2.2 (Nat.le_succ_of_le h0.1) (b0 h_0 h_1)).trans ?_
      exact r_iret rfl rfl

theorem en_X4_insert {d : Nat} {E : pEv} {ro : Nat → Nat → Int32} {Q : Option Value → pH → Prop} (s_E : oE E) {r0 c_h0 : Nat} (h0 : oRow r0 c_h0) {x1 : Int32} {x2 : Int32} : wX (d + 1) 61 [.ref r0, .int x1, .int x2] (mkH E ro) Q = (if x1 < 0 then Q none (mkH E ro) else (if (ro r0 1) < x1 then Q none (mkH E ro) else (if (ro r0 1) < (Int32.ofNat c_h0) then wG d 61 (30, [.ref r0, .int x1, .int x2, .int (ro r0 1)], [], mkH E ro) Q else Q none (mkH E ro)))) := by
  refine (wX_in rfl (by decide)).trans ?_
  show wG d 61 (0, [.ref r0, .int x1, .int x2, .retAddr 0], [], mkH E ro) Q = _
  refine (r_iload_n rfl rfl rfl).trans ?_
  refine (r_if_lt rfl rfl rfl).trans ?_
  refine ite_congr rfl (fun h_0 => ?_) (fun h_0 => ?_)
  · exact r_vret rfl rfl
  · refine (r_iload_n rfl rfl rfl).trans ?_
    refine (r_aload_n rfl rfl rfl).trans ?_
    refine (r_getI (ci := 4) (sl := 1) rfl rfl rfl h0.2.1 h0.1).trans ?_
    refine (r_icmp_gt rfl rfl rfl).trans ?_
    refine ite_congr rfl (fun h_1 => ?_) (fun h_1 => ?_)
    · exact r_vret rfl rfl
    · refine (r_aload_n rfl rfl rfl).trans ?_
      refine (r_getI (ci := 4) (sl := 1) rfl rfl rfl h0.2.1 h0.1).trans ?_
      refine (r_aload_n rfl rfl rfl).trans ?_
      refine (r_getR (ci := 4) (sl := 0) s_E rfl rfl rfl h0.2.1 h0.1 h0.2.2.1 (n81 h0.2.1 (by decide))).trans ?_
      refine (r_alen (v := Int32.ofNat c_h0) rfl rfl h0.2.2.2 (ne9 (Nat.le_succ_of_le h0.1)) (by decide) rfl).trans ?_
      refine (r_icmp_lt rfl rfl rfl).trans ?_
      refine ite_congr rfl (fun h_2 => ?_) (fun h_2 => ?_)
      · refine (r_aload_n rfl rfl rfl).trans ?_
        refine (r_getI (ci := 4) (sl := 1) rfl rfl rfl h0.2.1 h0.1).trans ?_
        refine (r_istore_n rfl rfl rfl rfl).trans ?_
        exact rfl
      · exact r_vret rfl rfl

theorem sg_X4_insert_30 {d : Nat} {E : pEv} {ro : Nat → Nat → Int32} {Q : Option Value → pH → Prop} (s_E : oE E) {r0 c_h0 : Nat} (h0 : oRow r0 c_h0) {x1 : Int32} {x2 : Int32} {x3 : Int32} (b0 : (x1 < x3) → (¬ (x3 - 1) < 0 ∧ (x3 - 1).toNatClampNeg < c_h0)) (b1 : (x1 < x3) → (¬ x3 < 0 ∧ x3.toNatClampNeg < c_h0)) (b2 : (¬ x1 < x3) → (¬ x1 < 0 ∧ x1.toNatClampNeg < c_h0)) : wG d 61 (30, [.ref r0, .int x1, .int x2, .int x3], [], mkH E ro) Q = (if x1 < x3 then wG d 61 (30, [.ref r0, .int x1, .int x2, .int (x3 + (-1))], [], mkH E (uI ro (r0 + 1) x3.toNatClampNeg (ro (r0 + 1) (x3 - 1).toNatClampNeg))) Q else Q none (mkH E (uI (uI ro (r0 + 1) x1.toNatClampNeg x2) r0 1 (((uI ro (r0 + 1) x1.toNatClampNeg x2) r0 1) + 1)))) := by
  refine (r_iload_n rfl rfl rfl).trans ?_
  refine (r_iload_n rfl rfl rfl).trans ?_
  refine (r_icmp_le rfl rfl rfl).trans ?_
  refine ite_congr rfl (fun h_0 => ?_) (fun h_0 => ?_)
  · refine (r_aload_n rfl rfl rfl).trans ?_
    refine (r_getR (ci := 4) (sl := 0) s_E rfl rfl rfl h0.2.1 h0.1 h0.2.2.1 (n81 h0.2.1 (by decide))).trans ?_
    refine (r_iload_n rfl rfl rfl).trans ?_
    refine (r_aload_n rfl rfl rfl).trans ?_
    refine (r_getR (ci := 4) (sl := 0) s_E rfl rfl rfl h0.2.1 h0.1 h0.2.2.1 (n81 h0.2.1 (by decide))).trans ?_
    refine (r_iload_n rfl rfl rfl).trans ?_
    refine (r_iconst (v := 1) rfl rfl rfl).trans ?_
    refine (r_isub rfl rfl).trans ?_
    refine (r_iald rfl rfl h0.2.2.2 (Nat.le_succ_of_le h0.1) (b0 h_0)).trans ?_
    refine (r_iast rfl rfl h0.2.2.2 (Nat.le_succ_of_le h0.1) (b1 h_0)).trans ?_
    refine (r_iinc (y := (-1)) rfl rfl rfl rfl rfl rfl).trans ?_
    refine (r_goto rfl rfl).trans ?_
    exact rfl
  · refine (r_aload_n rfl rfl rfl).trans ?_
    refine (r_getR (ci := 4) (sl := 0) s_E rfl rfl rfl h0.2.1 h0.1 h0.2.2.1 (n81 h0.2.1 (by decide))).trans ?_
    refine (r_iload_n rfl rfl rfl).trans ?_
    refine (r_iload_n rfl rfl rfl).trans ?_
    refine (r_iast rfl rfl h0.2.2.2 (Nat.le_succ_of_le h0.1) (b2 h_0)).trans ?_
    refine (r_aload_n rfl rfl rfl).trans ?_
    refine (r_dupR rfl rfl).trans ?_
    refine (r_getI (ci := 4) (sl := 1) rfl rfl rfl h0.2.1 h0.1).trans ?_
    refine (r_iconst (v := 1) rfl rfl rfl).trans ?_
    refine (r_iadd rfl rfl).trans ?_
    refine (r_putI (ci := 4) (sl := 1) rfl rfl rfl h0.2.1 h0.1).trans ?_
    exact r_vret rfl rfl

theorem en_X4_removeAt {d : Nat} {E : pEv} {ro : Nat → Nat → Int32} {Q : Option Value → pH → Prop} (s_E : oE E) {r0 c_h0 : Nat} (h0 : oRow r0 c_h0) {x1 : Int32} : wX (d + 1) 62 [.ref r0, .int x1] (mkH E ro) Q = (if x1 < 0 then Q none (mkH E ro) else (if x1 < (ro r0 1) then (if (Int32.ofNat c_h0) < (ro r0 1) then Q none (mkH E ro) else wG d 62 (27, [.ref r0, .int x1, .int x1], [], mkH E ro) Q) else Q none (mkH E ro))) := by
  refine (wX_in rfl (by decide)).trans ?_
  show wG d 62 (0, [.ref r0, .int x1, .retAddr 0], [], mkH E ro) Q = _
  refine (r_iload_n rfl rfl rfl).trans ?_
  refine (r_if_lt rfl rfl rfl).trans ?_
  refine ite_congr rfl (fun h_0 => ?_) (fun h_0 => ?_)
  · exact r_vret rfl rfl
  · refine (r_iload_n rfl rfl rfl).trans ?_
    refine (r_aload_n rfl rfl rfl).trans ?_
    refine (r_getI (ci := 4) (sl := 1) rfl rfl rfl h0.2.1 h0.1).trans ?_
    refine (r_icmp_ge rfl rfl rfl).trans ?_
    refine ite_congr rfl (fun h_1 => ?_) (fun h_1 => ?_)
    · refine (r_aload_n rfl rfl rfl).trans ?_
      refine (r_getI (ci := 4) (sl := 1) rfl rfl rfl h0.2.1 h0.1).trans ?_
      refine (r_aload_n rfl rfl rfl).trans ?_
      refine (r_getR (ci := 4) (sl := 0) s_E rfl rfl rfl h0.2.1 h0.1 h0.2.2.1 (n81 h0.2.1 (by decide))).trans ?_
      refine (r_alen (v := Int32.ofNat c_h0) rfl rfl h0.2.2.2 (ne9 (Nat.le_succ_of_le h0.1)) (by decide) rfl).trans ?_
      refine (r_icmp_le rfl rfl rfl).trans ?_
      refine ite_congr rfl (fun h_2 => ?_) (fun h_2 => ?_)
      · exact r_vret rfl rfl
      · refine (r_iload_n rfl rfl rfl).trans ?_
        refine (r_istore_n rfl rfl rfl rfl).trans ?_
        exact rfl
    · exact r_vret rfl rfl

theorem sg_X4_removeAt_27 {d : Nat} {E : pEv} {ro : Nat → Nat → Int32} {Q : Option Value → pH → Prop} (s_E : oE E) {r0 c_h0 : Nat} (h0 : oRow r0 c_h0) {x1 : Int32} {x2 : Int32} (b0 : (x2 < ((ro r0 1) - 1)) → (¬ (x2 + 1) < 0 ∧ (x2 + 1).toNatClampNeg < c_h0)) (b1 : (x2 < ((ro r0 1) - 1)) → (¬ x2 < 0 ∧ x2.toNatClampNeg < c_h0)) : wG d 62 (27, [.ref r0, .int x1, .int x2], [], mkH E ro) Q = (if x2 < ((ro r0 1) - 1) then wG d 62 (27, [.ref r0, .int x1, .int (x2 + 1)], [], mkH E (uI ro (r0 + 1) x2.toNatClampNeg (ro (r0 + 1) (x2 + 1).toNatClampNeg))) Q else Q none (mkH E (uI ro r0 1 ((ro r0 1) - 1)))) := by
  refine (r_iload_n rfl rfl rfl).trans ?_
  refine (r_aload_n rfl rfl rfl).trans ?_
  refine (r_getI (ci := 4) (sl := 1) rfl rfl rfl h0.2.1 h0.1).trans ?_
  refine (r_iconst (v := 1) rfl rfl rfl).trans ?_
  refine (r_isub rfl rfl).trans ?_
  refine (r_icmp_ge rfl rfl rfl).trans ?_
  refine ite_congr rfl (fun h_0 => ?_) (fun h_0 => ?_)
  · refine (r_aload_n rfl rfl rfl).trans ?_
    refine (r_getR (ci := 4) (sl := 0) s_E rfl rfl rfl h0.2.1 h0.1 h0.2.2.1 (n81 h0.2.1 (by decide))).trans ?_
    refine (r_iload_n rfl rfl rfl).trans ?_
    refine (r_aload_n rfl rfl rfl).trans ?_
    refine (r_getR (ci := 4) (sl := 0) s_E rfl rfl rfl h0.2.1 h0.1 h0.2.2.1 (n81 h0.2.1 (by decide))).trans ?_
    refine (r_iload_n rfl rfl rfl).trans ?_
    refine (r_iconst (v := 1) rfl rfl rfl).trans ?_
    refine (r_iadd rfl rfl).trans ?_
    refine (r_iald rfl rfl h0.2.2.2 (Nat.le_succ_of_le h0.1) (b0 h_0)).trans ?_
    refine (r_iast rfl rfl h0.2.2.2 (Nat.le_succ_of_le h0.1) (b1 h_0)).trans ?_
    refine (r_iinc (y := 1) rfl rfl rfl rfl rfl rfl).trans ?_
    refine (r_goto rfl rfl).trans ?_
    exact rfl
  · refine (r_aload_n rfl rfl rfl).trans ?_
    refine (r_dupR rfl rfl).trans ?_
    refine (r_getI (ci := 4) (sl := 1) rfl rfl rfl h0.2.1 h0.1).trans ?_
    refine (r_iconst (v := 1) rfl rfl rfl).trans ?_
    refine (r_isub rfl rfl).trans ?_
    refine (r_putI (ci := 4) (sl := 1) rfl rfl rfl h0.2.1 h0.1).trans ?_
    exact r_vret rfl rfl

theorem en_X4_find {d : Nat} {E : pEv} {ro : Nat → Nat → Int32} {Q : Option Value → pH → Prop} (s_E : oE E) {r0 c_h0 : Nat} (h0 : oRow r0 c_h0) {x1 : Int32} : wX (d + 1) 63 [.ref r0, .int x1] (mkH E ro) Q = wG d 63 (2, [.ref r0, .int x1, .int 0], [], mkH E ro) Q := by
  refine (wX_in rfl (by decide)).trans ?_
  show wG d 63 (0, [.ref r0, .int x1, .retAddr 0], [], mkH E ro) Q = _
  refine (r_iconst (v := 0) rfl rfl rfl).trans ?_
  refine (r_istore_n rfl rfl rfl rfl).trans ?_
  exact rfl

theorem sg_X4_find_2 {d : Nat} {E : pEv} {ro : Nat → Nat → Int32} {Q : Option Value → pH → Prop} (s_E : oE E) {r0 c_h0 : Nat} (h0 : oRow r0 c_h0) {x1 : Int32} {x2 : Int32} : wG d 63 (2, [.ref r0, .int x1, .int x2], [], mkH E ro) Q = (if x2 < (ro r0 1) then wX d 57 [.ref r0, .int x2] (mkH E ro) (fun v h' => wG d 63 (15, [.ref r0, .int x1, .int x2], pv v [], h') Q) else Q (some (.int (-1))) (mkH E ro)) := by
  refine (r_iload_n rfl rfl rfl).trans ?_
  refine (r_aload_n rfl rfl rfl).trans ?_
  refine (r_getI (ci := 4) (sl := 1) rfl rfl rfl h0.2.1 h0.1).trans ?_
  refine (r_icmp_ge rfl rfl rfl).trans ?_
  refine ite_congr rfl (fun h_0 => ?_) (fun h_0 => ?_)
  · refine (r_aload_n rfl rfl rfl).trans ?_
    refine (r_iload_n rfl rfl rfl).trans ?_
    exact r_inv (m := 57) (c := 4) rfl rfl rfl rfl rfl rfl h0.2.1 rfl
  · refine (r_iconst (v := (-1)) rfl rfl rfl).trans ?_
    exact r_iret rfl rfl

theorem sg_X4_find_15 {d : Nat} {E : pEv} {ro : Nat → Nat → Int32} {Q : Option Value → pH → Prop} (s_E : oE E) {r0 c_h0 : Nat} (h0 : oRow r0 c_h0) {x1 : Int32} {x2 : Int32} {xs0 : Int32} : wG d 63 (15, [.ref r0, .int x1, .int x2], [.int xs0], mkH E ro) Q = (if xs0 = x1 then Q (some (.int x2)) (mkH E ro) else wG d 63 (2, [.ref r0, .int x1, .int (x2 + 1)], [], mkH E ro) Q) := by
  refine (r_iload_n rfl rfl rfl).trans ?_
  refine (r_icmp_ne rfl rfl rfl).trans ?_
  refine ite_congr rfl (fun h_0 => ?_) (fun h_0 => ?_)
  · refine (r_iload_n rfl rfl rfl).trans ?_
    exact r_iret rfl rfl
  · refine (r_iinc (y := 1) rfl rfl rfl rfl rfl rfl).trans ?_
    refine (r_goto rfl rfl).trans ?_
    exact rfl

theorem en_X4_swap {d : Nat} {E : pEv} {ro : Nat → Nat → Int32} {Q : Option Value → pH → Prop} (s_E : oE E) {r0 c_h0 : Nat} (h0 : oRow r0 c_h0) {x1 : Int32} {x2 : Int32} : wX (d + 1) 64 [.ref r0, .int x1, .int x2] (mkH E ro) Q = wX d 57 [.ref r0, .int x1] (mkH E ro) (fun v h' => wG d 64 (5, [.ref r0, .int x1, .int x2, .retAddr 0], pv v [], h') Q) := by
  refine (wX_in rfl (by decide)).trans ?_
  show wG d 64 (0, [.ref r0, .int x1, .int x2, .retAddr 0], [], mkH E ro) Q = _
  refine (r_aload_n rfl rfl rfl).trans ?_
  refine (r_iload_n rfl rfl rfl).trans ?_
  exact r_inv (m := 57) (c := 4) rfl rfl rfl rfl rfl rfl h0.2.1 rfl

theorem sg_X4_swap_5 {d : Nat} {E : pEv} {ro : Nat → Nat → Int32} {Q : Option Value → pH → Prop} (s_E : oE E) {r0 c_h0 : Nat} (h0 : oRow r0 c_h0) {x1 : Int32} {x2 : Int32} {v3 : Value} {xs0 : Int32} : wG d 64 (5, [.ref r0, .int x1, .int x2, v3], [.int xs0], mkH E ro) Q = wX d 57 [.ref r0, .int x2] (mkH E ro) (fun v h' => wG d 64 (13, [.ref r0, .int x1, .int x2, .int xs0], pv v [.int x1, .ref r0], h') Q) := by
  refine (r_istore_n rfl rfl rfl rfl).trans ?_
  refine (r_aload_n rfl rfl rfl).trans ?_
  refine (r_iload_n rfl rfl rfl).trans ?_
  refine (r_aload_n rfl rfl rfl).trans ?_
  refine (r_iload_n rfl rfl rfl).trans ?_
  exact r_inv (m := 57) (c := 4) rfl rfl rfl rfl rfl rfl h0.2.1 rfl

theorem sg_X4_swap_13 {d : Nat} {E : pEv} {ro : Nat → Nat → Int32} {Q : Option Value → pH → Prop} (s_E : oE E) {r0 c_h0 : Nat} (h0 : oRow r0 c_h0) {x1 : Int32} {x2 : Int32} {x3 : Int32} {rs0 c_hs0 : Nat} (hs0 : oRow rs0 c_hs0) {xs1 : Int32} {xs2 : Int32} : wG d 64 (13, [.ref r0, .int x1, .int x2, .int x3], [.int xs2, .int xs1, .ref rs0], mkH E ro) Q = wX d 58 [.ref rs0, .int xs1, .int xs2] (mkH E ro) (fun v h' => wG d 64 (16, [.ref r0, .int x1, .int x2, .int x3], pv v [], h') Q) := by
  exact r_inv (m := 58) (c := 4) rfl rfl rfl rfl rfl rfl hs0.2.1 rfl

theorem sg_X4_swap_16 {d : Nat} {E : pEv} {ro : Nat → Nat → Int32} {Q : Option Value → pH → Prop} (s_E : oE E) {r0 c_h0 : Nat} (h0 : oRow r0 c_h0) {x1 : Int32} {x2 : Int32} {x3 : Int32} : wG d 64 (16, [.ref r0, .int x1, .int x2, .int x3], [], mkH E ro) Q = wX d 58 [.ref r0, .int x2, .int x3] (mkH E ro) (fun v h' => wG d 64 (22, [.ref r0, .int x1, .int x2, .int x3], pv v [], h') Q) := by
  refine (r_aload_n rfl rfl rfl).trans ?_
  refine (r_iload_n rfl rfl rfl).trans ?_
  refine (r_iload_n rfl rfl rfl).trans ?_
  exact r_inv (m := 58) (c := 4) rfl rfl rfl rfl rfl rfl h0.2.1 rfl

theorem sg_X4_swap_22 {d : Nat} {E : pEv} {ro : Nat → Nat → Int32} {Q : Option Value → pH → Prop} (s_E : oE E) {r0 c_h0 : Nat} (h0 : oRow r0 c_h0) {x1 : Int32} {x2 : Int32} {x3 : Int32} : wG d 64 (22, [.ref r0, .int x1, .int x2, .int x3], [], mkH E ro) Q = Q none (mkH E ro) := by
  exact r_vret rfl rfl

theorem en_X4_reverse {d : Nat} {E : pEv} {ro : Nat → Nat → Int32} {Q : Option Value → pH → Prop} (s_E : oE E) {r0 c_h0 : Nat} (h0 : oRow r0 c_h0) : wX (d + 1) 65 [.ref r0] (mkH E ro) Q = wG d 65 (2, [.ref r0, .int 0], [], mkH E ro) Q := by
  refine (wX_in rfl (by decide)).trans ?_
  show wG d 65 (0, [.ref r0, .retAddr 0], [], mkH E ro) Q = _
  refine (r_iconst (v := 0) rfl rfl rfl).trans ?_
  refine (r_istore_n rfl rfl rfl rfl).trans ?_
  exact rfl

theorem sg_X4_reverse_2 {d : Nat} {E : pEv} {ro : Nat → Nat → Int32} {Q : Option Value → pH → Prop} (s_E : oE E) {r0 c_h0 : Nat} (h0 : oRow r0 c_h0) {x1 : Int32} : wG d 65 (2, [.ref r0, .int x1], [], mkH E ro) Q = (if x1 < ((ro r0 1) / 2) then wX d 64 [.ref r0, .int x1, .int (((ro r0 1) - 1) - x1)] (mkH E ro) (fun v h' => wG d 65 (25, [.ref r0, .int x1], pv v [], h') Q) else Q none (mkH E ro)) := by
  refine (r_iload_n rfl rfl rfl).trans ?_
  refine (r_aload_n rfl rfl rfl).trans ?_
  refine (r_getI (ci := 4) (sl := 1) rfl rfl rfl h0.2.1 h0.1).trans ?_
  refine (r_iconst (v := 2) rfl rfl rfl).trans ?_
  refine (r_idiv rfl rfl (by decide)).trans ?_
  refine (r_icmp_ge rfl rfl rfl).trans ?_
  refine ite_congr rfl (fun h_0 => ?_) (fun h_0 => ?_)
  · refine (r_aload_n rfl rfl rfl).trans ?_
    refine (r_iload_n rfl rfl rfl).trans ?_
    refine (r_aload_n rfl rfl rfl).trans ?_
    refine (r_getI (ci := 4) (sl := 1) rfl rfl rfl h0.2.1 h0.1).trans ?_
    refine (r_iconst (v := 1) rfl rfl rfl).trans ?_
    refine (r_isub rfl rfl).trans ?_
    refine (r_iload_n rfl rfl rfl).trans ?_
    refine (r_isub rfl rfl).trans ?_
    exact r_inv (m := 64) (c := 4) rfl rfl rfl rfl rfl rfl h0.2.1 rfl
  · exact r_vret rfl rfl

theorem sg_X4_reverse_25 {d : Nat} {E : pEv} {ro : Nat → Nat → Int32} {Q : Option Value → pH → Prop} (s_E : oE E) {r0 c_h0 : Nat} (h0 : oRow r0 c_h0) {x1 : Int32} : wG d 65 (25, [.ref r0, .int x1], [], mkH E ro) Q = wG d 65 (2, [.ref r0, .int (x1 + 1)], [], mkH E ro) Q := by
  refine (r_iinc (y := 1) rfl rfl rfl rfl rfl rfl).trans ?_
  refine (r_goto rfl rfl).trans ?_
  exact rfl

theorem en_X4_clear {d : Nat} {E : pEv} {ro : Nat → Nat → Int32} {Q : Option Value → pH → Prop} (s_E : oE E) {r0 c_h0 : Nat} (h0 : oRow r0 c_h0) : wX (d + 1) 66 [.ref r0] (mkH E ro) Q = Q none (mkH E (uI ro r0 1 0)) := by
  refine (wX_in rfl (by decide)).trans ?_
  show wG d 66 (0, [.ref r0], [], mkH E ro) Q = _
  refine (r_aload_n rfl rfl rfl).trans ?_
  refine (r_iconst (v := 0) rfl rfl rfl).trans ?_
  refine (r_putI (ci := 4) (sl := 1) rfl rfl rfl h0.2.1 h0.1).trans ?_
  exact r_vret rfl rfl

theorem en_X4_resize {d : Nat} {E : pEv} {ro : Nat → Nat → Int32} {Q : Option Value → pH → Prop} (s_E : oE E) {r0 c_h0 : Nat} (h0 : oRow r0 c_h0) {x1 : Int32} : wX (d + 1) 67 [.ref r0, .int x1] (mkH E ro) Q = wX d 147 [.int x1, .int 0, .int (Int32.ofNat c_h0)] (mkH E ro) (fun v h' => wG d 67 (11, [.ref r0, .int x1], pv v [.ref r0], h') Q) := by
  refine (wX_in rfl (by decide)).trans ?_
  show wG d 67 (0, [.ref r0, .int x1], [], mkH E ro) Q = _
  refine (r_aload_n rfl rfl rfl).trans ?_
  refine (r_iload_n rfl rfl rfl).trans ?_
  refine (r_iconst (v := 0) rfl rfl rfl).trans ?_
  refine (r_aload_n rfl rfl rfl).trans ?_
  refine (r_getR (ci := 4) (sl := 0) s_E rfl rfl rfl h0.2.1 h0.1 h0.2.2.1 (n81 h0.2.1 (by decide))).trans ?_
  refine (r_alen (v := Int32.ofNat c_h0) rfl rfl h0.2.2.2 (ne9 (Nat.le_succ_of_le h0.1)) (by decide) rfl).trans ?_
  exact r_ins (m := 147) rfl rfl rfl rfl rfl rfl

theorem sg_X4_resize_11 {d : Nat} {E : pEv} {ro : Nat → Nat → Int32} {Q : Option Value → pH → Prop} (s_E : oE E) {r0 c_h0 : Nat} (h0 : oRow r0 c_h0) {x1 : Int32} {rs0 c_hs0 : Nat} (hs0 : oRow rs0 c_hs0) {xs1 : Int32} : wG d 67 (11, [.ref r0, .int x1], [.int xs1, .ref rs0], mkH E ro) Q = wX d 68 [.ref r0, .int 0] (mkH E (uI ro rs0 1 xs1)) (fun v h' => wG d 67 (19, [.ref r0, .int x1], pv v [], h') Q) := by
  refine (r_putI (ci := 4) (sl := 1) rfl rfl rfl hs0.2.1 hs0.1).trans ?_
  refine (r_aload_n rfl rfl rfl).trans ?_
  refine (r_iconst (v := 0) rfl rfl rfl).trans ?_
  exact r_inv (m := 68) (c := 4) rfl rfl rfl rfl rfl rfl h0.2.1 rfl

theorem sg_X4_resize_19 {d : Nat} {E : pEv} {ro : Nat → Nat → Int32} {Q : Option Value → pH → Prop} (s_E : oE E) {r0 c_h0 : Nat} (h0 : oRow r0 c_h0) {x1 : Int32} : wG d 67 (19, [.ref r0, .int x1], [], mkH E ro) Q = Q none (mkH E ro) := by
  exact r_vret rfl rfl

theorem en_X4_changeAll {d : Nat} {E : pEv} {ro : Nat → Nat → Int32} {Q : Option Value → pH → Prop} (s_E : oE E) {r0 c_h0 : Nat} (h0 : oRow r0 c_h0) {x1 : Int32} : wX (d + 1) 68 [.ref r0, .int x1] (mkH E ro) Q = wG d 68 (2, [.ref r0, .int x1, .int 0], [], mkH E ro) Q := by
  refine (wX_in rfl (by decide)).trans ?_
  show wG d 68 (0, [.ref r0, .int x1, .retAddr 0], [], mkH E ro) Q = _
  refine (r_iconst (v := 0) rfl rfl rfl).trans ?_
  refine (r_istore_n rfl rfl rfl rfl).trans ?_
  exact rfl

theorem sg_X4_changeAll_2 {d : Nat} {E : pEv} {ro : Nat → Nat → Int32} {Q : Option Value → pH → Prop} (s_E : oE E) {r0 c_h0 : Nat} (h0 : oRow r0 c_h0) {x1 : Int32} {x2 : Int32} : wG d 68 (2, [.ref r0, .int x1, .int x2], [], mkH E ro) Q = (if x2 < (ro r0 1) then wX d 58 [.ref r0, .int x2, .int x1] (mkH E ro) (fun v h' => wG d 68 (16, [.ref r0, .int x1, .int x2], pv v [], h') Q) else Q none (mkH E ro)) := by
  refine (r_iload_n rfl rfl rfl).trans ?_
  refine (r_aload_n rfl rfl rfl).trans ?_
  refine (r_getI (ci := 4) (sl := 1) rfl rfl rfl h0.2.1 h0.1).trans ?_
  refine (r_icmp_ge rfl rfl rfl).trans ?_
  refine ite_congr rfl (fun h_0 => ?_) (fun h_0 => ?_)
  · refine (r_aload_n rfl rfl rfl).trans ?_
    refine (r_iload_n rfl rfl rfl).trans ?_
    refine (r_iload_n rfl rfl rfl).trans ?_
    exact r_inv (m := 58) (c := 4) rfl rfl rfl rfl rfl rfl h0.2.1 rfl
  · exact r_vret rfl rfl

theorem sg_X4_changeAll_16 {d : Nat} {E : pEv} {ro : Nat → Nat → Int32} {Q : Option Value → pH → Prop} (s_E : oE E) {r0 c_h0 : Nat} (h0 : oRow r0 c_h0) {x1 : Int32} {x2 : Int32} : wG d 68 (16, [.ref r0, .int x1, .int x2], [], mkH E ro) Q = wG d 68 (2, [.ref r0, .int x1, .int (x2 + 1)], [], mkH E ro) Q := by
  refine (r_iinc (y := 1) rfl rfl rfl rfl rfl rfl).trans ?_
  refine (r_goto rfl rfl).trans ?_
  exact rfl

theorem en_X4_copyFrom {d : Nat} {E : pEv} {ro : Nat → Nat → Int32} {Q : Option Value → pH → Prop} (s_E : oE E) {r0 c_h0 : Nat} (h0 : oRow r0 c_h0) {r1 c_h1 : Nat} (h1 : oRow r1 c_h1) : wX (d + 1) 69 [.ref r0, .ref r1] (mkH E ro) Q = wX d 71 [.ref r0, .int 0, .ref r1, .int 0, .int ((uI ro r0 1 (if (Int32.ofNat c_h0) < (ro r1 1) then (Int32.ofNat c_h0) else (ro r1 1))) r0 1)] (mkH E (uI ro r0 1 (if (Int32.ofNat c_h0) < (ro r1 1) then (Int32.ofNat c_h0) else (ro r1 1)))) (fun v h' => wG d 69 (27, [.ref r0, .ref r1], pv v [], h') Q) := by
  refine (wX_in rfl (by decide)).trans ?_
  show wG d 69 (0, [.ref r0, .ref r1], [], mkH E ro) Q = _
  refine (r_aload_n rfl rfl rfl).trans ?_
  refine (r_aload_n rfl rfl rfl).trans ?_
  refine (r_getI (ci := 4) (sl := 1) rfl rfl rfl h1.2.1 h1.1).trans ?_
  refine (r_aload_n rfl rfl rfl).trans ?_
  refine (r_getR (ci := 4) (sl := 0) s_E rfl rfl rfl h0.2.1 h0.1 h0.2.2.1 (n81 h0.2.1 (by decide))).trans ?_
  refine (r_alen (v := Int32.ofNat c_h0) rfl rfl h0.2.2.2 (ne9 (Nat.le_succ_of_le h0.1)) (by decide) rfl).trans ?_
  refine (r_min rfl rfl rfl).trans ?_
  refine (r_putI (ci := 4) (sl := 1) rfl rfl rfl h0.2.1 h0.1).trans ?_
  refine (r_aload_n rfl rfl rfl).trans ?_
  refine (r_iconst (v := 0) rfl rfl rfl).trans ?_
  refine (r_aload_n rfl rfl rfl).trans ?_
  refine (r_iconst (v := 0) rfl rfl rfl).trans ?_
  refine (r_aload_n rfl rfl rfl).trans ?_
  refine (r_getI (ci := 4) (sl := 1) rfl rfl rfl h0.2.1 h0.1).trans ?_
  exact r_inv (m := 71) (c := 4) rfl rfl rfl rfl rfl rfl h0.2.1 rfl

theorem sg_X4_copyFrom_27 {d : Nat} {E : pEv} {ro : Nat → Nat → Int32} {Q : Option Value → pH → Prop} (s_E : oE E) {r0 c_h0 : Nat} (h0 : oRow r0 c_h0) {r1 c_h1 : Nat} (h1 : oRow r1 c_h1) : wG d 69 (27, [.ref r0, .ref r1], [], mkH E ro) Q = Q none (mkH E ro) := by
  exact r_vret rfl rfl

theorem en_X4_spans {d : Nat} {E : pEv} {ro : Nat → Nat → Int32} {Q : Option Value → pH → Prop} (s_E : oE E) {r0 c_h0 : Nat} (h0 : oRow r0 c_h0) {x1 : Int32} {x2 : Int32} : wX (d + 1) 70 [.ref r0, .int x1, .int x2] (mkH E ro) Q = (if x2 < 0 then Q (some (.int 0)) (mkH E ro) else (if x1 < 0 then Q (some (.int 0)) (mkH E ro) else (if ((ro r0 1) - x2) < x1 then Q (some (.int 0)) (mkH E ro) else Q (some (.int 1)) (mkH E ro)))) := by
  refine (wX_in rfl (by decide)).trans ?_
  show wG d 70 (0, [.ref r0, .int x1, .int x2], [], mkH E ro) Q = _
  refine (r_iload_n rfl rfl rfl).trans ?_
  refine (r_if_lt rfl rfl rfl).trans ?_
  refine ite_congr rfl (fun h_0 => ?_) (fun h_0 => ?_)
  · refine (r_iconst (v := 0) rfl rfl rfl).trans ?_
    exact r_zret rfl rfl rfl
  · refine (r_iload_n rfl rfl rfl).trans ?_
    refine (r_if_lt rfl rfl rfl).trans ?_
    refine ite_congr rfl (fun h_1 => ?_) (fun h_1 => ?_)
    · refine (r_iconst (v := 0) rfl rfl rfl).trans ?_
      exact r_zret rfl rfl rfl
    · refine (r_iload_n rfl rfl rfl).trans ?_
      refine (r_aload_n rfl rfl rfl).trans ?_
      refine (r_getI (ci := 4) (sl := 1) rfl rfl rfl h0.2.1 h0.1).trans ?_
      refine (r_iload_n rfl rfl rfl).trans ?_
      refine (r_isub rfl rfl).trans ?_
      refine (r_icmp_gt rfl rfl rfl).trans ?_
      refine ite_congr rfl (fun h_2 => ?_) (fun h_2 => ?_)
      · refine (r_iconst (v := 0) rfl rfl rfl).trans ?_
        exact r_zret rfl rfl rfl
      · refine (r_iconst (v := 1) rfl rfl rfl).trans ?_
        refine (r_goto rfl rfl).trans ?_
        exact r_zret rfl rfl rfl

theorem en_X4_overwrite {d : Nat} {E : pEv} {ro : Nat → Nat → Int32} {Q : Option Value → pH → Prop} (s_E : oE E) {r0 c_h0 : Nat} (h0 : oRow r0 c_h0) {x1 : Int32} {r2 c_h2 : Nat} (h2 : oRow r2 c_h2) {x3 : Int32} {x4 : Int32} : wX (d + 1) 71 [.ref r0, .int x1, .ref r2, .int x3, .int x4] (mkH E ro) Q = wX d 257 [.ref r2, .int x3, .int x4] (mkH E ro) (fun v h' => wG d 71 (7, [.ref r0, .int x1, .ref r2, .int x3, .int x4], pv v [], h') Q) := by
  refine (wX_in rfl (by decide)).trans ?_
  show wG d 71 (0, [.ref r0, .int x1, .ref r2, .int x3, .int x4], [], mkH E ro) Q = _
  refine (r_aload_n rfl rfl rfl).trans ?_
  refine (r_iload_n rfl rfl rfl).trans ?_
  refine (r_iload rfl rfl rfl).trans ?_
  exact r_inv (m := 257) (c := 4) rfl rfl rfl rfl rfl rfl h2.2.1 rfl

theorem sg_X4_overwrite_7 {d : Nat} {E : pEv} {ro : Nat → Nat → Int32} {Q : Option Value → pH → Prop} (s_E : oE E) {r0 c_h0 : Nat} (h0 : oRow r0 c_h0) {x1 : Int32} {r2 c_h2 : Nat} (h2 : oRow r2 c_h2) {x3 : Int32} {x4 : Int32} {xs0 : Int32} : wG d 71 (7, [.ref r0, .int x1, .ref r2, .int x3, .int x4], [.int xs0], mkH E ro) Q = (if xs0 = 0 then Q none (mkH E ro) else wX d 257 [.ref r0, .int x1, .int x4] (mkH E ro) (fun v h' => wG d 71 (17, [.ref r0, .int x1, .ref r2, .int x3, .int x4], pv v [], h') Q)) := by
  refine (r_if_eq rfl rfl rfl).trans ?_
  refine ite_congr rfl (fun h_0 => ?_) (fun h_0 => ?_)
  · exact r_vret rfl rfl
  · refine (r_aload_n rfl rfl rfl).trans ?_
    refine (r_iload_n rfl rfl rfl).trans ?_
    refine (r_iload rfl rfl rfl).trans ?_
    exact r_inv (m := 257) (c := 4) rfl rfl rfl rfl rfl rfl h0.2.1 rfl

theorem sg_X4_overwrite_17 {d : Nat} {E : pEv} {ro : Nat → Nat → Int32} {Q : Option Value → pH → Prop} (s_E : oE E) {r0 c_h0 : Nat} (h0 : oRow r0 c_h0) {x1 : Int32} {r2 c_h2 : Nat} (h2 : oRow r2 c_h2) {x3 : Int32} {x4 : Int32} {xs0 : Int32} (b0 : (¬ xs0 = 0) → (¬ x3 < 0)) (b1 : (¬ xs0 = 0) → (¬ x1 < 0)) (b2 : (¬ xs0 = 0) → (¬ x4 < 0)) (b3 : (¬ xs0 = 0) → (x3.toNatClampNeg + x4.toNatClampNeg ≤ c_h2)) (b4 : (¬ xs0 = 0) → (x1.toNatClampNeg + x4.toNatClampNeg ≤ c_h0)) : wG d 71 (17, [.ref r0, .int x1, .ref r2, .int x3, .int x4], [.int xs0], mkH E ro) Q = (if xs0 = 0 then Q none (mkH E ro) else Q none (mkH E (va_up ro (r0 + 1) (va_cpy (ro (r2 + 1)) (ro (r0 + 1)) x3.toNatClampNeg x1.toNatClampNeg x4.toNatClampNeg)))) := by
  refine (r_if_eq rfl rfl rfl).trans ?_
  refine ite_congr rfl (fun h_0 => ?_) (fun h_0 => ?_)
  · exact r_vret rfl rfl
  · refine (r_aload_n rfl rfl rfl).trans ?_
    refine (r_getR (ci := 4) (sl := 0) s_E rfl rfl rfl h2.2.1 h2.1 h2.2.2.1 (n81 h2.2.1 (by decide))).trans ?_
    refine (r_iload_n rfl rfl rfl).trans ?_
    refine (r_aload_n rfl rfl rfl).trans ?_
    refine (r_getR (ci := 4) (sl := 0) s_E rfl rfl rfl h0.2.1 h0.1 h0.2.2.1 (n81 h0.2.1 (by decide))).trans ?_
    refine (r_iload_n rfl rfl rfl).trans ?_
    refine (r_iload rfl rfl rfl).trans ?_
    refine (r_copy rfl rfl h2.2.2.2 h0.2.2.2 (Nat.le_succ_of_le h2.1) (Nat.le_succ_of_le h0.1) (b0 h_0) (b1 h_0) (b2 h_0) (b3 h_0) (b4 h_0) rfl).trans ?_
    exact r_vret rfl rfl

theorem en_X4_holds {d : Nat} {E : pEv} {ro : Nat → Nat → Int32} {Q : Option Value → pH → Prop} (s_E : oE E) {r0 c_h0 : Nat} (h0 : oRow r0 c_h0) {x1 : Int32} {x2 : Int32} : wX (d + 1) 257 [.ref r0, .int x1, .int x2] (mkH E ro) Q = wX d 70 [.ref r0, .int x1, .int x2] (mkH E ro) (fun v h' => wG d 257 (6, [.ref r0, .int x1, .int x2], pv v [], h') Q) := by
  refine (wX_in rfl (by decide)).trans ?_
  show wG d 257 (0, [.ref r0, .int x1, .int x2], [], mkH E ro) Q = _
  refine (r_aload_n rfl rfl rfl).trans ?_
  refine (r_iload_n rfl rfl rfl).trans ?_
  refine (r_iload_n rfl rfl rfl).trans ?_
  exact r_inv (m := 70) (c := 4) rfl rfl rfl rfl rfl rfl h0.2.1 rfl

theorem sg_X4_holds_6 {d : Nat} {E : pEv} {ro : Nat → Nat → Int32} {Q : Option Value → pH → Prop} (s_E : oE E) {r0 c_h0 : Nat} (h0 : oRow r0 c_h0) {x1 : Int32} {x2 : Int32} {xs0 : Int32} : wG d 257 (6, [.ref r0, .int x1, .int x2], [.int xs0], mkH E ro) Q = (if xs0 = 0 then Q (some (.int 0)) (mkH E ro) else (if (Int32.ofNat c_h0) < (ro r0 1) then Q (some (.int 0)) (mkH E ro) else Q (some (.int 1)) (mkH E ro))) := by
  refine (r_if_eq rfl rfl rfl).trans ?_
  refine ite_congr rfl (fun h_0 => ?_) (fun h_0 => ?_)
  · refine (r_iconst (v := 0) rfl rfl rfl).trans ?_
    exact r_zret rfl rfl rfl
  · refine (r_aload_n rfl rfl rfl).trans ?_
    refine (r_getI (ci := 4) (sl := 1) rfl rfl rfl h0.2.1 h0.1).trans ?_
    refine (r_aload_n rfl rfl rfl).trans ?_
    refine (r_getR (ci := 4) (sl := 0) s_E rfl rfl rfl h0.2.1 h0.1 h0.2.2.1 (n81 h0.2.1 (by decide))).trans ?_
    refine (r_alen (v := Int32.ofNat c_h0) rfl rfl h0.2.2.2 (ne9 (Nat.le_succ_of_le h0.1)) (by decide) rfl).trans ?_
    refine (r_icmp_gt rfl rfl rfl).trans ?_
    refine ite_congr rfl (fun h_1 => ?_) (fun h_1 => ?_)
    · refine (r_iconst (v := 0) rfl rfl rfl).trans ?_
      exact r_zret rfl rfl rfl
    · refine (r_iconst (v := 1) rfl rfl rfl).trans ?_
      refine (r_goto rfl rfl).trans ?_
      exact r_zret rfl rfl rfl
