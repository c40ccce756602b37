theorem en_J0_length_8abf5_1 {d : Nat} {E : pEv} {ro : Nat → Nat → Int32} {Q : Option Value → pH → Prop} (s_E : oE E) : wX (d + 1) 247 [.ref 1] (mkH E ro) Q = wX d 250 [.ref 1] (mkH E ro) (fun v h' => wG d 247 (9, [.ref 1], pv v [.int 3], h') Q) := by
  refine (wX_in rfl (by decide)).trans ?_
  show wG d 247 (0, [.ref 1], [], mkH E ro) Q = _
  refine (r_aload_n rfl rfl rfl).trans ?_
  refine (r_getS s_E rfl rfl rfl (by decide) rfl).trans ?_
  refine (r_alen (v := 3) rfl rfl rfl (by decide) (by decide) rfl).trans ?_
  refine (r_aload_n rfl rfl rfl).trans ?_
  exact r_inv (m := 250) (c := 11) rfl rfl rfl rfl rfl rfl rfl rfl

theorem sg_J0_length_8abf5_1_9 {d : Nat} {E : pEv} {ro : Nat → Nat → Int32} {Q : Option Value → pH → Prop} (s_E : oE E) {xs0 : Int32} {xs1 : Int32} : wG d 247 (9, [.ref 1], [.int xs1, .int xs0], mkH E ro) Q = Q (some (.int (xs0 >>> (xs1 &&& 31)))) (mkH E ro) := by
  refine (r_ishr rfl rfl).trans ?_
  exact r_iret rfl rfl

theorem en_J0_length_8abf5_2 {d : Nat} {E : pEv} {ro : Nat → Nat → Int32} {Q : Option Value → pH → Prop} (s_E : oE E) : wX (d + 1) 247 [.ref 2] (mkH E ro) Q = wX d 250 [.ref 2] (mkH E ro) (fun v h' => wG d 247 (9, [.ref 2], pv v [.int 3], h') Q) := by
  refine (wX_in rfl (by decide)).trans ?_
  show wG d 247 (0, [.ref 2], [], mkH E ro) Q = _
  refine (r_aload_n rfl rfl rfl).trans ?_
  refine (r_getS s_E rfl rfl rfl (by decide) rfl).trans ?_
  refine (r_alen (v := 3) rfl rfl rfl (by decide) (by decide) rfl).trans ?_
  refine (r_aload_n rfl rfl rfl).trans ?_
  exact r_inv (m := 250) (c := 11) rfl rfl rfl rfl rfl rfl rfl rfl

theorem sg_J0_length_8abf5_2_9 {d : Nat} {E : pEv} {ro : Nat → Nat → Int32} {Q : Option Value → pH → Prop} (s_E : oE E) {xs0 : Int32} {xs1 : Int32} : wG d 247 (9, [.ref 2], [.int xs1, .int xs0], mkH E ro) Q = Q (some (.int (xs0 >>> (xs1 &&& 31)))) (mkH E ro) := by
  refine (r_ishr rfl rfl).trans ?_
  exact r_iret rfl rfl

theorem en_J0_indexOf_0f7a4_1 {d : Nat} {E : pEv} {ro : Nat → Nat → Int32} {Q : Option Value → pH → Prop} (s_E : oE E) {x1 : Int32} : wX (d + 1) 248 [.ref 1, .int x1] (mkH E ro) Q = wX d 249 [.ref 1, .int x1, .int 0] (mkH E ro) (fun v h' => wG d 248 (6, [.ref 1, .int x1], pv v [], h') Q) := by
  refine (wX_in rfl (by decide)).trans ?_
  show wG d 248 (0, [.ref 1, .int x1], [], mkH E ro) Q = _
  refine (r_aload_n rfl rfl rfl).trans ?_
  refine (r_iload_n rfl rfl rfl).trans ?_
  refine (r_iconst (v := 0) rfl rfl rfl).trans ?_
  exact r_inv (m := 249) (c := 11) rfl rfl rfl rfl rfl rfl rfl rfl

theorem sg_J0_indexOf_0f7a4_1_6 {d : Nat} {E : pEv} {ro : Nat → Nat → Int32} {Q : Option Value → pH → Prop} (s_E : oE E) {x1 : Int32} {xs0 : Int32} : wG d 248 (6, [.ref 1, .int x1], [.int xs0], mkH E ro) Q = Q (some (.int xs0)) (mkH E ro) := by
  exact r_iret rfl rfl

theorem en_J0_indexOf_0f7a4_2 {d : Nat} {E : pEv} {ro : Nat → Nat → Int32} {Q : Option Value → pH → Prop} (s_E : oE E) {x1 : Int32} : wX (d + 1) 248 [.ref 2, .int x1] (mkH E ro) Q = wX d 249 [.ref 2, .int x1, .int 0] (mkH E ro) (fun v h' => wG d 248 (6, [.ref 2, .int x1], pv v [], h') Q) := by
  refine (wX_in rfl (by decide)).trans ?_
  show wG d 248 (0, [.ref 2, .int x1], [], mkH E ro) Q = _
  refine (r_aload_n rfl rfl rfl).trans ?_
  refine (r_iload_n rfl rfl rfl).trans ?_
  refine (r_iconst (v := 0) rfl rfl rfl).trans ?_
  exact r_inv (m := 249) (c := 11) rfl rfl rfl rfl rfl rfl rfl rfl

theorem sg_J0_indexOf_0f7a4_2_6 {d : Nat} {E : pEv} {ro : Nat → Nat → Int32} {Q : Option Value → pH → Prop} (s_E : oE E) {x1 : Int32} {xs0 : Int32} : wG d 248 (6, [.ref 2, .int x1], [.int xs0], mkH E ro) Q = Q (some (.int xs0)) (mkH E ro) := by
  exact r_iret rfl rfl

theorem en_J0_indexOf_7cf53_1 {d : Nat} {E : pEv} {ro : Nat → Nat → Int32} {Q : Option Value → pH → Prop} (s_E : oE E) {x1 : Int32} {x2 : Int32} : wX (d + 1) 249 [.ref 1, .int x1, .int x2] (mkH E ro) Q = wX d 251 [.ref 1] (mkH E ro) (fun v h' => wG d 249 (4, [.ref 1, .int x1, .int x2], pv v [], h') Q) := by
  refine (wX_in rfl (by decide)).trans ?_
  show wG d 249 (0, [.ref 1, .int x1, .int x2], [], mkH E ro) Q = _
  refine (r_aload_n rfl rfl rfl).trans ?_
  exact r_inv (m := 251) (c := 11) rfl rfl rfl rfl rfl rfl rfl rfl

theorem sg_J0_indexOf_7cf53_1_4 {d : Nat} {E : pEv} {ro : Nat → Nat → Int32} {Q : Option Value → pH → Prop} (s_E : oE E) {x1 : Int32} {x2 : Int32} {xs0 : Int32} : wG d 249 (4, [.ref 1, .int x1, .int x2], [.int xs0], mkH E ro) Q = (if xs0 = 0 then wX d 247 [.ref 1] (mkH E ro) (fun v h' => wG d 249 (33, [.ref 1, .int x1, .int x2], pv v [.int x2, .int x1, .ref 4], h') Q) else wX d 247 [.ref 1] (mkH E ro) (fun v h' => wG d 249 (17, [.ref 1, .int x1, .int x2], pv v [.int x2, .int x1, .ref 4], h') Q)) := by
  refine (r_if_eq rfl rfl rfl).trans ?_
  refine ite_congr rfl (fun h_0 => ?_) (fun h_0 => ?_)
  · refine (r_aload_n rfl rfl rfl).trans ?_
    refine (r_getS s_E rfl rfl rfl (by decide) rfl).trans ?_
    refine (r_iload_n rfl rfl rfl).trans ?_
    refine (r_iload_n rfl rfl rfl).trans ?_
    refine (r_aload_n rfl rfl rfl).trans ?_
    exact r_inv (m := 247) (c := 11) rfl rfl rfl rfl rfl rfl rfl rfl
  · refine (r_aload_n rfl rfl rfl).trans ?_
    refine (r_getS s_E rfl rfl rfl (by decide) rfl).trans ?_
    refine (r_iload_n rfl rfl rfl).trans ?_
    refine (r_iload_n rfl rfl rfl).trans ?_
    refine (r_aload_n rfl rfl rfl).trans ?_
    exact r_inv (m := 247) (c := 11) rfl rfl rfl rfl rfl rfl rfl rfl

theorem sg_J0_indexOf_7cf53_1_17 {d : Nat} {E : pEv} {ro : Nat → Nat → Int32} {Q : Option Value → pH → Prop} (s_E : oE E) {x1 : Int32} {x2 : Int32} {xs1 : Int32} {xs2 : Int32} {xs3 : Int32} : wG d 249 (17, [.ref 1, .int x1, .int x2], [.int xs3, .int xs2, .int xs1, .ref 4], mkH E ro) Q = wX d 253 [.ref 4, .int xs1, .int xs2, .int xs3] (mkH E ro) (fun v h' => wG d 249 (20, [.ref 1, .int x1, .int x2], pv v [], h') Q) := by
  exact r_ins (m := 253) rfl rfl rfl rfl rfl rfl

theorem sg_J0_indexOf_7cf53_1_20 {d : Nat} {E : pEv} {ro : Nat → Nat → Int32} {Q : Option Value → pH → Prop} (s_E : oE E) {x1 : Int32} {x2 : Int32} {xs0 : Int32} : wG d 249 (20, [.ref 1, .int x1, .int x2], [.int xs0], mkH E ro) Q = Q (some (.int xs0)) (mkH E ro) := by
  refine (r_goto rfl rfl).trans ?_
  exact r_iret rfl rfl

theorem en_J0_indexOf_7cf53_2 {d : Nat} {E : pEv} {ro : Nat → Nat → Int32} {Q : Option Value → pH → Prop} (s_E : oE E) {x1 : Int32} {x2 : Int32} : wX (d + 1) 249 [.ref 2, .int x1, .int x2] (mkH E ro) Q = wX d 251 [.ref 2] (mkH E ro) (fun v h' => wG d 249 (4, [.ref 2, .int x1, .int x2], pv v [], h') Q) := by
  refine (wX_in rfl (by decide)).trans ?_
  show wG d 249 (0, [.ref 2, .int x1, .int x2], [], mkH E ro) Q = _
  refine (r_aload_n rfl rfl rfl).trans ?_
  exact r_inv (m := 251) (c := 11) rfl rfl rfl rfl rfl rfl rfl rfl

theorem sg_J0_indexOf_7cf53_2_4 {d : Nat} {E : pEv} {ro : Nat → Nat → Int32} {Q : Option Value → pH → Prop} (s_E : oE E) {x1 : Int32} {x2 : Int32} {xs0 : Int32} : wG d 249 (4, [.ref 2, .int x1, .int x2], [.int xs0], mkH E ro) Q = (if xs0 = 0 then wX d 247 [.ref 2] (mkH E ro) (fun v h' => wG d 249 (33, [.ref 2, .int x1, .int x2], pv v [.int x2, .int x1, .ref 5], h') Q) else wX d 247 [.ref 2] (mkH E ro) (fun v h' => wG d 249 (17, [.ref 2, .int x1, .int x2], pv v [.int x2, .int x1, .ref 5], h') Q)) := by
  refine (r_if_eq rfl rfl rfl).trans ?_
  refine ite_congr rfl (fun h_0 => ?_) (fun h_0 => ?_)
  · refine (r_aload_n rfl rfl rfl).trans ?_
    refine (r_getS s_E rfl rfl rfl (by decide) rfl).trans ?_
    refine (r_iload_n rfl rfl rfl).trans ?_
    refine (r_iload_n rfl rfl rfl).trans ?_
    refine (r_aload_n rfl rfl rfl).trans ?_
    exact r_inv (m := 247) (c := 11) rfl rfl rfl rfl rfl rfl rfl rfl
  · refine (r_aload_n rfl rfl rfl).trans ?_
    refine (r_getS s_E rfl rfl rfl (by decide) rfl).trans ?_
    refine (r_iload_n rfl rfl rfl).trans ?_
    refine (r_iload_n rfl rfl rfl).trans ?_
    refine (r_aload_n rfl rfl rfl).trans ?_
    exact r_inv (m := 247) (c := 11) rfl rfl rfl rfl rfl rfl rfl rfl

theorem sg_J0_indexOf_7cf53_2_17 {d : Nat} {E : pEv} {ro : Nat → Nat → Int32} {Q : Option Value → pH → Prop} (s_E : oE E) {x1 : Int32} {x2 : Int32} {xs1 : Int32} {xs2 : Int32} {xs3 : Int32} : wG d 249 (17, [.ref 2, .int x1, .int x2], [.int xs3, .int xs2, .int xs1, .ref 5], mkH E ro) Q = wX d 253 [.ref 5, .int xs1, .int xs2, .int xs3] (mkH E ro) (fun v h' => wG d 249 (20, [.ref 2, .int x1, .int x2], pv v [], h') Q) := by
  exact r_ins (m := 253) rfl rfl rfl rfl rfl rfl

theorem sg_J0_indexOf_7cf53_2_20 {d : Nat} {E : pEv} {ro : Nat → Nat → Int32} {Q : Option Value → pH → Prop} (s_E : oE E) {x1 : Int32} {x2 : Int32} {xs0 : Int32} : wG d 249 (20, [.ref 2, .int x1, .int x2], [.int xs0], mkH E ro) Q = Q (some (.int xs0)) (mkH E ro) := by
  refine (r_goto rfl rfl).trans ?_
  exact r_iret rfl rfl

theorem en_J0_coder_7d493_1 {d : Nat} {E : pEv} {ro : Nat → Nat → Int32} {Q : Option Value → pH → Prop} (s_E : oE E) : wX (d + 1) 250 [.ref 1] (mkH E ro) Q = Q (some (.int 0)) (mkH E ro) := by
  refine (wX_in rfl (by decide)).trans ?_
  show wG d 250 (0, [.ref 1], [], mkH E ro) Q = _
  refine (r_getsC rfl rfl rfl).trans ?_
  refine (r_if_eq rfl rfl rfl).trans ?_
  refine (if_neg (by decide)).trans ?_
  refine (r_aload_n rfl rfl rfl).trans ?_
  refine (r_getC rfl rfl rfl (by decide)).trans ?_
  refine (r_goto rfl rfl).trans ?_
  exact r_zret rfl rfl rfl

theorem en_J0_coder_7d493_2 {d : Nat} {E : pEv} {ro : Nat → Nat → Int32} {Q : Option Value → pH → Prop} (s_E : oE E) : wX (d + 1) 250 [.ref 2] (mkH E ro) Q = Q (some (.int 0)) (mkH E ro) := by
  refine (wX_in rfl (by decide)).trans ?_
  show wG d 250 (0, [.ref 2], [], mkH E ro) Q = _
  refine (r_getsC rfl rfl rfl).trans ?_
  refine (r_if_eq rfl rfl rfl).trans ?_
  refine (if_neg (by decide)).trans ?_
  refine (r_aload_n rfl rfl rfl).trans ?_
  refine (r_getC rfl rfl rfl (by decide)).trans ?_
  refine (r_goto rfl rfl).trans ?_
  exact r_zret rfl rfl rfl

theorem en_J0_isLatin1_aae02_1 {d : Nat} {E : pEv} {ro : Nat → Nat → Int32} {Q : Option Value → pH → Prop} (s_E : oE E) : wX (d + 1) 251 [.ref 1] (mkH E ro) Q = Q (some (.int 1)) (mkH E ro) := by
  refine (wX_in rfl (by decide)).trans ?_
  show wG d 251 (0, [.ref 1], [], mkH E ro) Q = _
  refine (r_getsC rfl rfl rfl).trans ?_
  refine (r_if_eq rfl rfl rfl).trans ?_
  refine (if_neg (by decide)).trans ?_
  refine (r_aload_n rfl rfl rfl).trans ?_
  refine (r_getC rfl rfl rfl (by decide)).trans ?_
  refine (r_if_ne rfl rfl rfl).trans ?_
  refine (if_pos (by decide)).trans ?_
  refine (r_iconst (v := 1) rfl rfl rfl).trans ?_
  refine (r_goto rfl rfl).trans ?_
  exact r_zret rfl rfl rfl

theorem en_J0_isLatin1_aae02_2 {d : Nat} {E : pEv} {ro : Nat → Nat → Int32} {Q : Option Value → pH → Prop} (s_E : oE E) : wX (d + 1) 251 [.ref 2] (mkH E ro) Q = Q (some (.int 1)) (mkH E ro) := by
  refine (wX_in rfl (by decide)).trans ?_
  show wG d 251 (0, [.ref 2], [], mkH E ro) Q = _
  refine (r_getsC rfl rfl rfl).trans ?_
  refine (r_if_eq rfl rfl rfl).trans ?_
  refine (if_neg (by decide)).trans ?_
  refine (r_aload_n rfl rfl rfl).trans ?_
  refine (r_getC rfl rfl rfl (by decide)).trans ?_
  refine (r_if_ne rfl rfl rfl).trans ?_
  refine (if_pos (by decide)).trans ?_
  refine (r_iconst (v := 1) rfl rfl rfl).trans ?_
  refine (r_goto rfl rfl).trans ?_
  exact r_zret rfl rfl rfl

theorem en_J1_canEncode_9a6ad {d : Nat} {E : pEv} {ro : Nat → Nat → Int32} {Q : Option Value → pH → Prop} (s_E : oE E) {x0 : Int32} : wX (d + 1) 252 [.int x0] (mkH E ro) Q = (if x0 < 0 then Q (some (.int 0)) (mkH E ro) else (if 255 < x0 then Q (some (.int 0)) (mkH E ro) else Q (some (.int 1)) (mkH E ro))) := by
  refine (wX_in rfl (by decide)).trans ?_
  show wG d 252 (0, [.int x0], [], mkH E ro) Q = _
  refine (r_iload_n rfl rfl rfl).trans ?_
  refine (r_if_lt rfl rfl rfl).trans ?_
  refine ite_congr rfl (fun h_0 => ?_) (fun h_0 => ?_)
  · refine (r_iconst (v := 0) rfl rfl rfl).trans ?_
    exact r_zret rfl rfl rfl
  · refine (r_iload_n rfl rfl rfl).trans ?_
    refine (r_sipush (v := 255) rfl rfl rfl).trans ?_
    refine (r_icmp_gt rfl rfl rfl).trans ?_
    refine ite_congr rfl (fun h_1 => ?_) (fun h_1 => ?_)
    · refine (r_iconst (v := 0) rfl rfl rfl).trans ?_
      exact r_zret rfl rfl rfl
    · refine (r_iconst (v := 1) rfl rfl rfl).trans ?_
      refine (r_goto rfl rfl).trans ?_
      exact r_zret rfl rfl rfl

theorem en_J1_indexOf_4cfef_1 {d : Nat} {E : pEv} {ro : Nat → Nat → Int32} {Q : Option Value → pH → Prop} (s_E : oE E) {x1 : Int32} {x2 : Int32} {x3 : Int32} : wX (d + 1) 253 [.ref 4, .int x1, .int x2, .int x3] (mkH E ro) Q = wX d 252 [.int x1] (mkH E ro) (fun v h' => wG d 253 (4, [.ref 4, .int x1, .int x2, .int x3], pv v [], h') Q) := by
  refine (wX_in rfl (by decide)).trans ?_
  show wG d 253 (0, [.ref 4, .int x1, .int x2, .int x3], [], mkH E ro) Q = _
  refine (r_iload_n rfl rfl rfl).trans ?_
  exact r_ins (m := 252) rfl rfl rfl rfl rfl rfl

theorem sg_J1_indexOf_4cfef_1_4 {d : Nat} {E : pEv} {ro : Nat → Nat → Int32} {Q : Option Value → pH → Prop} (s_E : oE E) {x1 : Int32} {x2 : Int32} {x3 : Int32} {xs0 : Int32} : wG d 253 (4, [.ref 4, .int x1, .int x2, .int x3], [.int xs0], mkH E ro) Q = (if xs0 = 0 then Q (some (.int (-1))) (mkH E ro) else (if (if x2 < 0 then 0 else x2) < (if 3 < x3 then 3 else x3) then wX d 254 [.ref 4, .int x1, .int (if x2 < 0 then 0 else x2), .int (if 3 < x3 then 3 else x3)] (mkH E ro) (fun v h' => wG d 253 (36, [.ref 4, .int x1, .int (if x2 < 0 then 0 else x2), .int (if 3 < x3 then 3 else x3)], pv v [], h') Q) else Q (some (.int (-1))) (mkH E ro))) := by
  refine (r_if_ne rfl rfl rfl).trans ?_
  refine ite_congr rfl (fun h_0 => ?_) (fun h_0 => ?_)
  · refine (r_iconst (v := (-1)) rfl rfl rfl).trans ?_
    exact r_iret rfl rfl
  · refine (r_iload_n rfl rfl rfl).trans ?_
    refine (r_iconst (v := 0) rfl rfl rfl).trans ?_
    refine (r_max rfl rfl rfl).trans ?_
    refine (r_istore_n rfl rfl rfl rfl).trans ?_
    refine (r_iload_n rfl rfl rfl).trans ?_
    refine (r_aload_n rfl rfl rfl).trans ?_
    refine (r_alen (v := 3) rfl rfl rfl (by decide) (by decide) rfl).trans ?_
    refine (r_min rfl rfl rfl).trans ?_
    refine (r_istore_n rfl rfl rfl rfl).trans ?_
    refine (r_iload_n rfl rfl rfl).trans ?_
    refine (r_iload_n rfl rfl rfl).trans ?_
    refine (r_icmp_lt rfl rfl rfl).trans ?_
    refine ite_congr rfl (fun h_1 => ?_) (fun h_1 => ?_)
    · refine (r_aload_n rfl rfl rfl).trans ?_
      refine (r_iload_n rfl rfl rfl).trans ?_
      refine (r_iload_n rfl rfl rfl).trans ?_
      refine (r_iload_n rfl rfl rfl).trans ?_
      exact r_ins (m := 254) rfl rfl rfl rfl rfl rfl
    · refine (r_iconst (v := (-1)) rfl rfl rfl).trans ?_
      exact r_iret rfl rfl

theorem sg_J1_indexOf_4cfef_1_36 {d : Nat} {E : pEv} {ro : Nat → Nat → Int32} {Q : Option Value → pH → Prop} (s_E : oE E) {x1 : Int32} {x2 : Int32} {x3 : Int32} {xs0 : Int32} : wG d 253 (36, [.ref 4, .int x1, .int x2, .int x3], [.int xs0], mkH E ro) Q = Q (some (.int xs0)) (mkH E ro) := by
  exact r_iret rfl rfl

theorem en_J1_indexOf_4cfef_2 {d : Nat} {E : pEv} {ro : Nat → Nat → Int32} {Q : Option Value → pH → Prop} (s_E : oE E) {x1 : Int32} {x2 : Int32} {x3 : Int32} : wX (d + 1) 253 [.ref 5, .int x1, .int x2, .int x3] (mkH E ro) Q = wX d 252 [.int x1] (mkH E ro) (fun v h' => wG d 253 (4, [.ref 5, .int x1, .int x2, .int x3], pv v [], h') Q) := by
  refine (wX_in rfl (by decide)).trans ?_
  show wG d 253 (0, [.ref 5, .int x1, .int x2, .int x3], [], mkH E ro) Q = _
  refine (r_iload_n rfl rfl rfl).trans ?_
  exact r_ins (m := 252) rfl rfl rfl rfl rfl rfl

theorem sg_J1_indexOf_4cfef_2_4 {d : Nat} {E : pEv} {ro : Nat → Nat → Int32} {Q : Option Value → pH → Prop} (s_E : oE E) {x1 : Int32} {x2 : Int32} {x3 : Int32} {xs0 : Int32} : wG d 253 (4, [.ref 5, .int x1, .int x2, .int x3], [.int xs0], mkH E ro) Q = (if xs0 = 0 then Q (some (.int (-1))) (mkH E ro) else (if (if x2 < 0 then 0 else x2) < (if 3 < x3 then 3 else x3) then wX d 254 [.ref 5, .int x1, .int (if x2 < 0 then 0 else x2), .int (if 3 < x3 then 3 else x3)] (mkH E ro) (fun v h' => wG d 253 (36, [.ref 5, .int x1, .int (if x2 < 0 then 0 else x2), .int (if 3 < x3 then 3 else x3)], pv v [], h') Q) else Q (some (.int (-1))) (mkH E ro))) := by
  refine (r_if_ne rfl rfl rfl).trans ?_
  refine ite_congr rfl (fun h_0 => ?_) (fun h_0 => ?_)
  · refine (r_iconst (v := (-1)) rfl rfl rfl).trans ?_
    exact r_iret rfl rfl
  · refine (r_iload_n rfl rfl rfl).trans ?_
    refine (r_iconst (v := 0) rfl rfl rfl).trans ?_
    refine (r_max rfl rfl rfl).trans ?_
    refine (r_istore_n rfl rfl rfl rfl).trans ?_
    refine (r_iload_n rfl rfl rfl).trans ?_
    refine (r_aload_n rfl rfl rfl).trans ?_
    refine (r_alen (v := 3) rfl rfl rfl (by decide) (by decide) rfl).trans ?_
    refine (r_min rfl rfl rfl).trans ?_
    refine (r_istore_n rfl rfl rfl rfl).trans ?_
    refine (r_iload_n rfl rfl rfl).trans ?_
    refine (r_iload_n rfl rfl rfl).trans ?_
    refine (r_icmp_lt rfl rfl rfl).trans ?_
    refine ite_congr rfl (fun h_1 => ?_) (fun h_1 => ?_)
    · refine (r_aload_n rfl rfl rfl).trans ?_
      refine (r_iload_n rfl rfl rfl).trans ?_
      refine (r_iload_n rfl rfl rfl).trans ?_
      refine (r_iload_n rfl rfl rfl).trans ?_
      exact r_ins (m := 254) rfl rfl rfl rfl rfl rfl
    · refine (r_iconst (v := (-1)) rfl rfl rfl).trans ?_
      exact r_iret rfl rfl

theorem sg_J1_indexOf_4cfef_2_36 {d : Nat} {E : pEv} {ro : Nat → Nat → Int32} {Q : Option Value → pH → Prop} (s_E : oE E) {x1 : Int32} {x2 : Int32} {x3 : Int32} {xs0 : Int32} : wG d 253 (36, [.ref 5, .int x1, .int x2, .int x3], [.int xs0], mkH E ro) Q = Q (some (.int xs0)) (mkH E ro) := by
  exact r_iret rfl rfl

theorem en_J1_indexOfChar_4cfef_1 {d : Nat} {E : pEv} {ro : Nat → Nat → Int32} {Q : Option Value → pH → Prop} (s_E : oE E) {x1 : Int32} {x2 : Int32} {x3 : Int32} : wX (d + 1) 254 [.ref 4, .int x1, .int x2, .int x3] (mkH E ro) Q = wG d 254 (7, [.ref 4, .int x1, .int x2, .int x3, .int x1.toInt8.toInt32, .int x2], [], mkH E ro) Q := by
  refine (wX_in rfl (by decide)).trans ?_
  show wG d 254 (0, [.ref 4, .int x1, .int x2, .int x3, .retAddr 0, .retAddr 0], [], mkH E ro) Q = _
  refine (r_iload_n rfl rfl rfl).trans ?_
  refine (r_i2b rfl rfl).trans ?_
  refine (r_istore rfl rfl rfl rfl).trans ?_
  refine (r_iload_n rfl rfl rfl).trans ?_
  refine (r_istore rfl rfl rfl rfl).trans ?_
  exact rfl

theorem sg_J1_indexOfChar_4cfef_1_7 {d : Nat} {E : pEv} {ro : Nat → Nat → Int32} {Q : Option Value → pH → Prop} (s_E : oE E) {x1 : Int32} {x2 : Int32} {x3 : Int32} {x4 : Int32} {x5 : Int32} (b0 : (x5 < x3) → (¬ x5 < 0 ∧ x5.toNatClampNeg < 3)) : wG d 254 (7, [.ref 4, .int x1, .int x2, .int x3, .int x4, .int x5], [], mkH E ro) Q = (if x5 < x3 then (if (exI E.2.1 4 x5.toNatClampNeg) = x4 then Q (some (.int x5)) (mkH E ro) else wG d 254 (7, [.ref 4, .int x1, .int x2, .int x3, .int x4, .int (x5 + 1)], [], mkH E ro) Q) else Q (some (.int (-1))) (mkH E ro)) := by
  refine (r_iload rfl rfl rfl).trans ?_
  refine (r_iload_n rfl rfl rfl).trans ?_
  refine (r_icmp_ge rfl rfl rfl).trans ?_
  refine ite_congr rfl (fun h_0 => ?_) (fun h_0 => ?_)
  · refine (r_aload_n rfl rfl rfl).trans ?_
    refine (r_iload rfl rfl rfl).trans ?_
    refine (r_bald rfl rfl rfl (by decide) (b0 h_0)).trans ?_
    refine (r_iload rfl rfl rfl).trans ?_
    refine (r_icmp_ne rfl rfl rfl).trans ?_
    refine ite_congr rfl (fun h_1 => ?_) (fun h_1 => ?_)
    · refine (r_iload rfl rfl rfl).trans ?_
      exact r_iret rfl rfl
    · refine (r_iinc (y := 1) rfl rfl rfl rfl rfl rfl).trans ?_
      refine (r_goto rfl rfl).trans ?_
      exact rfl
  · refine (r_iconst (v := (-1)) rfl rfl rfl).trans ?_
    exact r_iret rfl rfl

theorem en_J1_indexOfChar_4cfef_2 {d : Nat} {E : pEv} {ro : Nat → Nat → Int32} {Q : Option Value → pH → Prop} (s_E : oE E) {x1 : Int32} {x2 : Int32} {x3 : Int32} : wX (d + 1) 254 [.ref 5, .int x1, .int x2, .int x3] (mkH E ro) Q = wG d 254 (7, [.ref 5, .int x1, .int x2, .int x3, .int x1.toInt8.toInt32, .int x2], [], mkH E ro) Q := by
  refine (wX_in rfl (by decide)).trans ?_
  show wG d 254 (0, [.ref 5, .int x1, .int x2, .int x3, .retAddr 0, .retAddr 0], [], mkH E ro) Q = _
  refine (r_iload_n rfl rfl rfl).trans ?_
  refine (r_i2b rfl rfl).trans ?_
  refine (r_istore rfl rfl rfl rfl).trans ?_
  refine (r_iload_n rfl rfl rfl).trans ?_
  refine (r_istore rfl rfl rfl rfl).trans ?_
  exact rfl

theorem sg_J1_indexOfChar_4cfef_2_7 {d : Nat} {E : pEv} {ro : Nat → Nat → Int32} {Q : Option Value → pH → Prop} (s_E : oE E) {x1 : Int32} {x2 : Int32} {x3 : Int32} {x4 : Int32} {x5 : Int32} (b0 : (x5 < x3) → (¬ x5 < 0 ∧ x5.toNatClampNeg < 3)) : wG d 254 (7, [.ref 5, .int x1, .int x2, .int x3, .int x4, .int x5], [], mkH E ro) Q = (if x5 < x3 then (if (exI E.2.1 5 x5.toNatClampNeg) = x4 then Q (some (.int x5)) (mkH E ro) else wG d 254 (7, [.ref 5, .int x1, .int x2, .int x3, .int x4, .int (x5 + 1)], [], mkH E ro) Q) else Q (some (.int (-1))) (mkH E ro)) := by
  refine (r_iload rfl rfl rfl).trans ?_
  refine (r_iload_n rfl rfl rfl).trans ?_
  refine (r_icmp_ge rfl rfl rfl).trans ?_
  refine ite_congr rfl (fun h_0 => ?_) (fun h_0 => ?_)
  · refine (r_aload_n rfl rfl rfl).trans ?_
    refine (r_iload rfl rfl rfl).trans ?_
    refine (r_bald rfl rfl rfl (by decide) (b0 h_0)).trans ?_
    refine (r_iload rfl rfl rfl).trans ?_
    refine (r_icmp_ne rfl rfl rfl).trans ?_
    refine ite_congr rfl (fun h_1 => ?_) (fun h_1 => ?_)
    · refine (r_iload rfl rfl rfl).trans ?_
      exact r_iret rfl rfl
    · refine (r_iinc (y := 1) rfl rfl rfl rfl rfl rfl).trans ?_
      refine (r_goto rfl rfl).trans ?_
      exact rfl
  · refine (r_iconst (v := (-1)) rfl rfl rfl).trans ?_
    exact r_iret rfl rfl

theorem en_J6_bitCount_0f7a4 {d : Nat} {E : pEv} {ro : Nat → Nat → Int32} {Q : Option Value → pH → Prop} (s_E : oE E) {x0 : Int32} : wX (d + 1) 255 [.int x0] (mkH E ro) Q = Q (some (.int ((((((((x0 - (((x0.toUInt32 >>> ((1 : Int32).toUInt32 &&& Int32.toUInt32 31)).toInt32) &&& 1431655765)) &&& 858993459) + ((((x0 - (((x0.toUInt32 >>> ((1 : Int32).toUInt32 &&& Int32.toUInt32 31)).toInt32) &&& 1431655765)).toUInt32 >>> ((2 : Int32).toUInt32 &&& Int32.toUInt32 31)).toInt32) &&& 858993459)) + (((((x0 - (((x0.toUInt32 >>> ((1 : Int32).toUInt32 &&& Int32.toUInt32 31)).toInt32) &&& 1431655765)) &&& 858993459) + ((((x0 - (((x0.toUInt32 >>> ((1 : Int32).toUInt32 &&& Int32.toUInt32 31)).toInt32) &&& 1431655765)).toUInt32 >>> ((2 : Int32).toUInt32 &&& Int32.toUInt32 31)).toInt32) &&& 858993459)).toUInt32 >>> ((4 : Int32).toUInt32 &&& Int32.toUInt32 31)).toInt32)) &&& 252645135) + (((((((x0 - (((x0.toUInt32 >>> ((1 : Int32).toUInt32 &&& Int32.toUInt32 31)).toInt32) &&& 1431655765)) &&& 858993459) + ((((x0 - (((x0.toUInt32 >>> ((1 : Int32).toUInt32 &&& Int32.toUInt32 31)).toInt32) &&& 1431655765)).toUInt32 >>> ((2 : Int32).toUInt32 &&& Int32.toUInt32 31)).toInt32) &&& 858993459)) + (((((x0 - (((x0.toUInt32 >>> ((1 : Int32).toUInt32 &&& Int32.toUInt32 31)).toInt32) &&& 1431655765)) &&& 858993459) + ((((x0 - (((x0.toUInt32 >>> ((1 : Int32).toUInt32 &&& Int32.toUInt32 31)).toInt32) &&& 1431655765)).toUInt32 >>> ((2 : Int32).toUInt32 &&& Int32.toUInt32 31)).toInt32) &&& 858993459)).toUInt32 >>> ((4 : Int32).toUInt32 &&& Int32.toUInt32 31)).toInt32)) &&& 252645135).toUInt32 >>> ((8 : Int32).toUInt32 &&& Int32.toUInt32 31)).toInt32)) + ((((((((x0 - (((x0.toUInt32 >>> ((1 : Int32).toUInt32 &&& Int32.toUInt32 31)).toInt32) &&& 1431655765)) &&& 858993459) + ((((x0 - (((x0.toUInt32 >>> ((1 : Int32).toUInt32 &&& Int32.toUInt32 31)).toInt32) &&& 1431655765)).toUInt32 >>> ((2 : Int32).toUInt32 &&& Int32.toUInt32 31)).toInt32) &&& 858993459)) + (((((x0 - (((x0.toUInt32 >>> ((1 : Int32).toUInt32 &&& Int32.toUInt32 31)).toInt32) &&& 1431655765)) &&& 858993459) + ((((x0 - (((x0.toUInt32 >>> ((1 : Int32).toUInt32 &&& Int32.toUInt32 31)).toInt32) &&& 1431655765)).toUInt32 >>> ((2 : Int32).toUInt32 &&& Int32.toUInt32 31)).toInt32) &&& 858993459)).toUInt32 >>> ((4 : Int32).toUInt32 &&& Int32.toUInt32 31)).toInt32)) &&& 252645135) + (((((((x0 - (((x0.toUInt32 >>> ((1 : Int32).toUInt32 &&& Int32.toUInt32 31)).toInt32) &&& 1431655765)) &&& 858993459) + ((((x0 - (((x0.toUInt32 >>> ((1 : Int32).toUInt32 &&& Int32.toUInt32 31)).toInt32) &&& 1431655765)).toUInt32 >>> ((2 : Int32).toUInt32 &&& Int32.toUInt32 31)).toInt32) &&& 858993459)) + (((((x0 - (((x0.toUInt32 >>> ((1 : Int32).toUInt32 &&& Int32.toUInt32 31)).toInt32) &&& 1431655765)) &&& 858993459) + ((((x0 - (((x0.toUInt32 >>> ((1 : Int32).toUInt32 &&& Int32.toUInt32 31)).toInt32) &&& 1431655765)).toUInt32 >>> ((2 : Int32).toUInt32 &&& Int32.toUInt32 31)).toInt32) &&& 858993459)).toUInt32 >>> ((4 : Int32).toUInt32 &&& Int32.toUInt32 31)).toInt32)) &&& 252645135).toUInt32 >>> ((8 : Int32).toUInt32 &&& Int32.toUInt32 31)).toInt32)).toUInt32 >>> ((16 : Int32).toUInt32 &&& Int32.toUInt32 31)).toInt32)) &&& 63))) (mkH E ro) := by
  refine (wX_in rfl (by decide)).trans ?_
  show wG d 255 (0, [.int x0], [], mkH E ro) Q = _
  refine (r_iload_n rfl rfl rfl).trans ?_
  refine (r_iload_n rfl rfl rfl).trans ?_
  refine (r_iconst (v := 1) rfl rfl rfl).trans ?_
  refine (r_iushr rfl rfl).trans ?_
  refine (r_ldc_w (v := 1431655765) rfl rfl rfl).trans ?_
  refine (r_iand rfl rfl).trans ?_
  refine (r_isub rfl rfl).trans ?_
  refine (r_istore_n rfl rfl rfl rfl).trans ?_
  refine (r_iload_n rfl rfl rfl).trans ?_
  refine (r_ldc_w (v := 858993459) rfl rfl rfl).trans ?_
  refine (r_iand rfl rfl).trans ?_
  refine (r_iload_n rfl rfl rfl).trans ?_
  refine (r_iconst (v := 2) rfl rfl rfl).trans ?_
  refine (r_iushr rfl rfl).trans ?_
  refine (r_ldc_w (v := 858993459) rfl rfl rfl).trans ?_
  refine (r_iand rfl rfl).trans ?_
  refine (r_iadd rfl rfl).trans ?_
  refine (r_istore_n rfl rfl rfl rfl).trans ?_
  refine (r_iload_n rfl rfl rfl).trans ?_
  refine (r_iload_n rfl rfl rfl).trans ?_
  refine (r_iconst (v := 4) rfl rfl rfl).trans ?_
  refine (r_iushr rfl rfl).trans ?_
  refine (r_iadd rfl rfl).trans ?_
  refine (r_ldc_w (v := 252645135) rfl rfl rfl).trans ?_
  refine (r_iand rfl rfl).trans ?_
  refine (r_istore_n rfl rfl rfl rfl).trans ?_
  refine (r_iload_n rfl rfl rfl).trans ?_
  refine (r_iload_n rfl rfl rfl).trans ?_
  refine (r_bipush (v := 8) rfl rfl rfl).trans ?_
  refine (r_iushr rfl rfl).trans ?_
  refine (r_iadd rfl rfl).trans ?_
  refine (r_istore_n rfl rfl rfl rfl).trans ?_
  refine (r_iload_n rfl rfl rfl).trans ?_
  refine (r_iload_n rfl rfl rfl).trans ?_
  refine (r_bipush (v := 16) rfl rfl rfl).trans ?_
  refine (r_iushr rfl rfl).trans ?_
  refine (r_iadd rfl rfl).trans ?_
  refine (r_istore_n rfl rfl rfl rfl).trans ?_
  refine (r_iload_n rfl rfl rfl).trans ?_
  refine (r_bipush (v := 63) rfl rfl rfl).trans ?_
  refine (r_iand rfl rfl).trans ?_
  exact r_iret rfl rfl
theorem sg_L_law_18 {d : Nat} {E : pEv} {ro : Nat → Nat → Int32} {Q : Option Value → pH → Prop} (s_E : oE E) {x3 : Int32} (b0 : (¬ ((Int32.ofNat E.1) - 6) < x3) → (¬ x3 < 0 ∧ x3.toNatClampNeg < E.1)) (b1 : (¬ ((Int32.ofNat E.1) - 6) < x3) → (((E.2.1 x3.toNatClampNeg) &&& 63) = 0) → (¬ (x3 + 1) < 0 ∧ (x3 + 1).toNatClampNeg < E.1)) (b2 : (¬ ((Int32.ofNat E.1) - 6) < x3) → (((E.2.1 x3.toNatClampNeg) &&& 63) = 0) → (¬ (x3 + 2) < 0 ∧ (x3 + 2).toNatClampNeg < E.1)) (b3 : (¬ ((Int32.ofNat E.1) - 6) < x3) → (((E.2.1 x3.toNatClampNeg) &&& 63) = 0) → (¬ (x3 + 3) < 0 ∧ (x3 + 3).toNatClampNeg < E.1)) (b4 : (¬ ((Int32.ofNat E.1) - 6) < x3) → (((E.2.1 x3.toNatClampNeg) &&& 63) = 0) → (¬ (x3 + 4) < 0 ∧ (x3 + 4).toNatClampNeg < E.1)) (b5 : (¬ ((Int32.ofNat E.1) - 6) < x3) → (¬ ((E.2.1 x3.toNatClampNeg) &&& 63) = 0) → (((E.2.1 x3.toNatClampNeg) &&& 63) = 1) → (¬ (x3 + 1) < 0 ∧ (x3 + 1).toNatClampNeg < E.1)) (b6 : (¬ ((Int32.ofNat E.1) - 6) < x3) → (¬ ((E.2.1 x3.toNatClampNeg) &&& 63) = 0) → (((E.2.1 x3.toNatClampNeg) &&& 63) = 1) → (¬ (x3 + 2) < 0 ∧ (x3 + 2).toNatClampNeg < E.1)) (b7 : (¬ ((Int32.ofNat E.1) - 6) < x3) → (¬ ((E.2.1 x3.toNatClampNeg) &&& 63) = 0) → (((E.2.1 x3.toNatClampNeg) &&& 63) = 1) → (¬ (x3 + 3) < 0 ∧ (x3 + 3).toNatClampNeg < E.1)) (b8 : (¬ ((Int32.ofNat E.1) - 6) < x3) → (¬ ((E.2.1 x3.toNatClampNeg) &&& 63) = 0) → (((E.2.1 x3.toNatClampNeg) &&& 63) = 1) → (¬ (x3 + 4) < 0 ∧ (x3 + 4).toNatClampNeg < E.1)) (b9 : (¬ ((Int32.ofNat E.1) - 6) < x3) → (¬ ((E.2.1 x3.toNatClampNeg) &&& 63) = 0) → (¬ ((E.2.1 x3.toNatClampNeg) &&& 63) = 1) → (((E.2.1 x3.toNatClampNeg) &&& 63) = 2) → (¬ (x3 + 1) < 0 ∧ (x3 + 1).toNatClampNeg < E.1)) (b10 : (¬ ((Int32.ofNat E.1) - 6) < x3) → (¬ ((E.2.1 x3.toNatClampNeg) &&& 63) = 0) → (¬ ((E.2.1 x3.toNatClampNeg) &&& 63) = 1) → (((E.2.1 x3.toNatClampNeg) &&& 63) = 2) → (¬ (x3 + 2) < 0 ∧ (x3 + 2).toNatClampNeg < E.1)) (b11 : (¬ ((Int32.ofNat E.1) - 6) < x3) → (¬ ((E.2.1 x3.toNatClampNeg) &&& 63) = 0) → (¬ ((E.2.1 x3.toNatClampNeg) &&& 63) = 1) → (¬ ((E.2.1 x3.toNatClampNeg) &&& 63) = 2) → (((E.2.1 x3.toNatClampNeg) &&& 63) = 3) → (¬ (x3 + 1) < 0 ∧ (x3 + 1).toNatClampNeg < E.1)) (b12 : (¬ ((Int32.ofNat E.1) - 6) < x3) → (¬ ((E.2.1 x3.toNatClampNeg) &&& 63) = 0) → (¬ ((E.2.1 x3.toNatClampNeg) &&& 63) = 1) → (¬ ((E.2.1 x3.toNatClampNeg) &&& 63) = 2) → (((E.2.1 x3.toNatClampNeg) &&& 63) = 3) → (¬ (x3 + 2) < 0 ∧ (x3 + 2).toNatClampNeg < E.1)) (b13 : (¬ ((Int32.ofNat E.1) - 6) < x3) → (¬ ((E.2.1 x3.toNatClampNeg) &&& 63) = 0) → (¬ ((E.2.1 x3.toNatClampNeg) &&& 63) = 1) → (¬ ((E.2.1 x3.toNatClampNeg) &&& 63) = 2) → (¬ ((E.2.1 x3.toNatClampNeg) &&& 63) = 3) → (((E.2.1 x3.toNatClampNeg) &&& 63) = 4) → (¬ (x3 + 1) < 0 ∧ (x3 + 1).toNatClampNeg < E.1)) (b14 : (¬ ((Int32.ofNat E.1) - 6) < x3) → (¬ ((E.2.1 x3.toNatClampNeg) &&& 63) = 0) → (¬ ((E.2.1 x3.toNatClampNeg) &&& 63) = 1) → (¬ ((E.2.1 x3.toNatClampNeg) &&& 63) = 2) → (¬ ((E.2.1 x3.toNatClampNeg) &&& 63) = 3) → (((E.2.1 x3.toNatClampNeg) &&& 63) = 4) → (¬ (x3 + 2) < 0 ∧ (x3 + 2).toNatClampNeg < E.1)) (b15 : (¬ ((Int32.ofNat E.1) - 6) < x3) → (¬ ((E.2.1 x3.toNatClampNeg) &&& 63) = 0) → (¬ ((E.2.1 x3.toNatClampNeg) &&& 63) = 1) → (¬ ((E.2.1 x3.toNatClampNeg) &&& 63) = 2) → (¬ ((E.2.1 x3.toNatClampNeg) &&& 63) = 3) → (¬ ((E.2.1 x3.toNatClampNeg) &&& 63) = 4) → (((E.2.1 x3.toNatClampNeg) &&& 63) = 5) → (¬ (x3 + 1) < 0 ∧ (x3 + 1).toNatClampNeg < E.1)) (b16 : (¬ ((Int32.ofNat E.1) - 6) < x3) → (¬ ((E.2.1 x3.toNatClampNeg) &&& 63) = 0) → (¬ ((E.2.1 x3.toNatClampNeg) &&& 63) = 1) → (¬ ((E.2.1 x3.toNatClampNeg) &&& 63) = 2) → (¬ ((E.2.1 x3.toNatClampNeg) &&& 63) = 3) → (¬ ((E.2.1 x3.toNatClampNeg) &&& 63) = 4) → (((E.2.1 x3.toNatClampNeg) &&& 63) = 5) → (¬ (x3 + 2) < 0 ∧ (x3 + 2).toNatClampNeg < E.1)) (b17 : (¬ ((Int32.ofNat E.1) - 6) < x3) → (¬ ((E.2.1 x3.toNatClampNeg) &&& 63) = 0) → (¬ ((E.2.1 x3.toNatClampNeg) &&& 63) = 1) → (¬ ((E.2.1 x3.toNatClampNeg) &&& 63) = 2) → (¬ ((E.2.1 x3.toNatClampNeg) &&& 63) = 3) → (¬ ((E.2.1 x3.toNatClampNeg) &&& 63) = 4) → (((E.2.1 x3.toNatClampNeg) &&& 63) = 5) → (¬ (x3 + 3) < 0 ∧ (x3 + 3).toNatClampNeg < E.1)) (b18 : (¬ ((Int32.ofNat E.1) - 6) < x3) → (¬ ((E.2.1 x3.toNatClampNeg) &&& 63) = 0) → (¬ ((E.2.1 x3.toNatClampNeg) &&& 63) = 1) → (¬ ((E.2.1 x3.toNatClampNeg) &&& 63) = 2) → (¬ ((E.2.1 x3.toNatClampNeg) &&& 63) = 3) → (¬ ((E.2.1 x3.toNatClampNeg) &&& 63) = 4) → (¬ ((E.2.1 x3.toNatClampNeg) &&& 63) = 5) → (¬ ((E.2.1 x3.toNatClampNeg) &&& 63) = 6) → (((E.2.1 x3.toNatClampNeg) &&& 63) = 7) → (¬ (x3 + 1) < 0 ∧ (x3 + 1).toNatClampNeg < E.1)) (b19 : (¬ ((Int32.ofNat E.1) - 6) < x3) → (¬ ((E.2.1 x3.toNatClampNeg) &&& 63) = 0) → (¬ ((E.2.1 x3.toNatClampNeg) &&& 63) = 1) → (¬ ((E.2.1 x3.toNatClampNeg) &&& 63) = 2) → (¬ ((E.2.1 x3.toNatClampNeg) &&& 63) = 3) → (¬ ((E.2.1 x3.toNatClampNeg) &&& 63) = 4) → (¬ ((E.2.1 x3.toNatClampNeg) &&& 63) = 5) → (¬ ((E.2.1 x3.toNatClampNeg) &&& 63) = 6) → (¬ ((E.2.1 x3.toNatClampNeg) &&& 63) = 7) → (((E.2.1 x3.toNatClampNeg) &&& 63) = 8) → (¬ (x3 + 1) < 0 ∧ (x3 + 1).toNatClampNeg < E.1)) (b20 : (¬ ((Int32.ofNat E.1) - 6) < x3) → (¬ ((E.2.1 x3.toNatClampNeg) &&& 63) = 0) → (¬ ((E.2.1 x3.toNatClampNeg) &&& 63) = 1) → (¬ ((E.2.1 x3.toNatClampNeg) &&& 63) = 2) → (¬ ((E.2.1 x3.toNatClampNeg) &&& 63) = 3) → (¬ ((E.2.1 x3.toNatClampNeg) &&& 63) = 4) → (¬ ((E.2.1 x3.toNatClampNeg) &&& 63) = 5) → (¬ ((E.2.1 x3.toNatClampNeg) &&& 63) = 6) → (¬ ((E.2.1 x3.toNatClampNeg) &&& 63) = 7) → (((E.2.1 x3.toNatClampNeg) &&& 63) = 8) → (¬ (x3 + 2) < 0 ∧ (x3 + 2).toNatClampNeg < E.1)) (b21 : (¬ ((Int32.ofNat E.1) - 6) < x3) → (¬ ((E.2.1 x3.toNatClampNeg) &&& 63) = 0) → (¬ ((E.2.1 x3.toNatClampNeg) &&& 63) = 1) → (¬ ((E.2.1 x3.toNatClampNeg) &&& 63) = 2) → (¬ ((E.2.1 x3.toNatClampNeg) &&& 63) = 3) → (¬ ((E.2.1 x3.toNatClampNeg) &&& 63) = 4) → (¬ ((E.2.1 x3.toNatClampNeg) &&& 63) = 5) → (¬ ((E.2.1 x3.toNatClampNeg) &&& 63) = 6) → (¬ ((E.2.1 x3.toNatClampNeg) &&& 63) = 7) → (¬ ((E.2.1 x3.toNatClampNeg) &&& 63) = 8) → (((E.2.1 x3.toNatClampNeg) &&& 63) = 9) → (¬ (x3 + 1) < 0 ∧ (x3 + 1).toNatClampNeg < E.1)) (b22 : (¬ ((Int32.ofNat E.1) - 6) < x3) → (¬ ((E.2.1 x3.toNatClampNeg) &&& 63) = 0) → (¬ ((E.2.1 x3.toNatClampNeg) &&& 63) = 1) → (¬ ((E.2.1 x3.toNatClampNeg) &&& 63) = 2) → (¬ ((E.2.1 x3.toNatClampNeg) &&& 63) = 3) → (¬ ((E.2.1 x3.toNatClampNeg) &&& 63) = 4) → (¬ ((E.2.1 x3.toNatClampNeg) &&& 63) = 5) → (¬ ((E.2.1 x3.toNatClampNeg) &&& 63) = 6) → (¬ ((E.2.1 x3.toNatClampNeg) &&& 63) = 7) → (¬ ((E.2.1 x3.toNatClampNeg) &&& 63) = 8) → (¬ ((E.2.1 x3.toNatClampNeg) &&& 63) = 9) → (((E.2.1 x3.toNatClampNeg) &&& 63) = 10) → (¬ (x3 + 1) < 0 ∧ (x3 + 1).toNatClampNeg < E.1)) (b23 : (¬ ((Int32.ofNat E.1) - 6) < x3) → (¬ ((E.2.1 x3.toNatClampNeg) &&& 63) = 0) → (¬ ((E.2.1 x3.toNatClampNeg) &&& 63) = 1) → (¬ ((E.2.1 x3.toNatClampNeg) &&& 63) = 2) → (¬ ((E.2.1 x3.toNatClampNeg) &&& 63) = 3) → (¬ ((E.2.1 x3.toNatClampNeg) &&& 63) = 4) → (¬ ((E.2.1 x3.toNatClampNeg) &&& 63) = 5) → (¬ ((E.2.1 x3.toNatClampNeg) &&& 63) = 6) → (¬ ((E.2.1 x3.toNatClampNeg) &&& 63) = 7) → (¬ ((E.2.1 x3.toNatClampNeg) &&& 63) = 8) → (¬ ((E.2.1 x3.toNatClampNeg) &&& 63) = 9) → (¬ ((E.2.1 x3.toNatClampNeg) &&& 63) = 10) → (((E.2.1 x3.toNatClampNeg) &&& 63) = 11) → (¬ (x3 + 1) < 0 ∧ (x3 + 1).toNatClampNeg < E.1)) (b24 : (¬ ((Int32.ofNat E.1) - 6) < x3) → (¬ ((E.2.1 x3.toNatClampNeg) &&& 63) = 0) → (¬ ((E.2.1 x3.toNatClampNeg) &&& 63) = 1) → (¬ ((E.2.1 x3.toNatClampNeg) &&& 63) = 2) → (¬ ((E.2.1 x3.toNatClampNeg) &&& 63) = 3) → (¬ ((E.2.1 x3.toNatClampNeg) &&& 63) = 4) → (¬ ((E.2.1 x3.toNatClampNeg) &&& 63) = 5) → (¬ ((E.2.1 x3.toNatClampNeg) &&& 63) = 6) → (¬ ((E.2.1 x3.toNatClampNeg) &&& 63) = 7) → (¬ ((E.2.1 x3.toNatClampNeg) &&& 63) = 8) → (¬ ((E.2.1 x3.toNatClampNeg) &&& 63) = 9) → (¬ ((E.2.1 x3.toNatClampNeg) &&& 63) = 10) → (¬ ((E.2.1 x3.toNatClampNeg) &&& 63) = 11) → (¬ ((E.2.1 x3.toNatClampNeg) &&& 63) = 12) → (¬ ((E.2.1 x3.toNatClampNeg) &&& 63) = 13) → (((E.2.1 x3.toNatClampNeg) &&& 63) = 14) → (¬ (x3 + 1) < 0 ∧ (x3 + 1).toNatClampNeg < E.1)) (b25 : (¬ ((Int32.ofNat E.1) - 6) < x3) → (¬ ((E.2.1 x3.toNatClampNeg) &&& 63) = 0) → (¬ ((E.2.1 x3.toNatClampNeg) &&& 63) = 1) → (¬ ((E.2.1 x3.toNatClampNeg) &&& 63) = 2) → (¬ ((E.2.1 x3.toNatClampNeg) &&& 63) = 3) → (¬ ((E.2.1 x3.toNatClampNeg) &&& 63) = 4) → (¬ ((E.2.1 x3.toNatClampNeg) &&& 63) = 5) → (¬ ((E.2.1 x3.toNatClampNeg) &&& 63) = 6) → (¬ ((E.2.1 x3.toNatClampNeg) &&& 63) = 7) → (¬ ((E.2.1 x3.toNatClampNeg) &&& 63) = 8) → (¬ ((E.2.1 x3.toNatClampNeg) &&& 63) = 9) → (¬ ((E.2.1 x3.toNatClampNeg) &&& 63) = 10) → (¬ ((E.2.1 x3.toNatClampNeg) &&& 63) = 11) → (¬ ((E.2.1 x3.toNatClampNeg) &&& 63) = 12) → (¬ ((E.2.1 x3.toNatClampNeg) &&& 63) = 13) → (((E.2.1 x3.toNatClampNeg) &&& 63) = 14) → (¬ (x3 + 2) < 0 ∧ (x3 + 2).toNatClampNeg < E.1)) (b26 : (¬ ((Int32.ofNat E.1) - 6) < x3) → (¬ ((E.2.1 x3.toNatClampNeg) &&& 63) = 0) → (¬ ((E.2.1 x3.toNatClampNeg) &&& 63) = 1) → (¬ ((E.2.1 x3.toNatClampNeg) &&& 63) = 2) → (¬ ((E.2.1 x3.toNatClampNeg) &&& 63) = 3) → (¬ ((E.2.1 x3.toNatClampNeg) &&& 63) = 4) → (¬ ((E.2.1 x3.toNatClampNeg) &&& 63) = 5) → (¬ ((E.2.1 x3.toNatClampNeg) &&& 63) = 6) → (¬ ((E.2.1 x3.toNatClampNeg) &&& 63) = 7) → (¬ ((E.2.1 x3.toNatClampNeg) &&& 63) = 8) → (¬ ((E.2.1 x3.toNatClampNeg) &&& 63) = 9) → (¬ ((E.2.1 x3.toNatClampNeg) &&& 63) = 10) → (¬ ((E.2.1 x3.toNatClampNeg) &&& 63) = 11) → (¬ ((E.2.1 x3.toNatClampNeg) &&& 63) = 12) → (¬ ((E.2.1 x3.toNatClampNeg) &&& 63) = 13) → (((E.2.1 x3.toNatClampNeg) &&& 63) = 14) → (¬ (x3 + 3) < 0 ∧ (x3 + 3).toNatClampNeg < E.1)) (b27 : (¬ ((Int32.ofNat E.1) - 6) < x3) → (¬ ((E.2.1 x3.toNatClampNeg) &&& 63) = 0) → (¬ ((E.2.1 x3.toNatClampNeg) &&& 63) = 1) → (¬ ((E.2.1 x3.toNatClampNeg) &&& 63) = 2) → (¬ ((E.2.1 x3.toNatClampNeg) &&& 63) = 3) → (¬ ((E.2.1 x3.toNatClampNeg) &&& 63) = 4) → (¬ ((E.2.1 x3.toNatClampNeg) &&& 63) = 5) → (¬ ((E.2.1 x3.toNatClampNeg) &&& 63) = 6) → (¬ ((E.2.1 x3.toNatClampNeg) &&& 63) = 7) → (¬ ((E.2.1 x3.toNatClampNeg) &&& 63) = 8) → (¬ ((E.2.1 x3.toNatClampNeg) &&& 63) = 9) → (¬ ((E.2.1 x3.toNatClampNeg) &&& 63) = 10) → (¬ ((E.2.1 x3.toNatClampNeg) &&& 63) = 11) → (¬ ((E.2.1 x3.toNatClampNeg) &&& 63) = 12) → (¬ ((E.2.1 x3.toNatClampNeg) &&& 63) = 13) → (¬ ((E.2.1 x3.toNatClampNeg) &&& 63) = 14) → (((E.2.1 x3.toNatClampNeg) &&& 63) = 15) → (¬ (x3 + 1) < 0 ∧ (x3 + 1).toNatClampNeg < E.1)) (b28 : (¬ ((Int32.ofNat E.1) - 6) < x3) → (¬ ((E.2.1 x3.toNatClampNeg) &&& 63) = 0) → (¬ ((E.2.1 x3.toNatClampNeg) &&& 63) = 1) → (¬ ((E.2.1 x3.toNatClampNeg) &&& 63) = 2) → (¬ ((E.2.1 x3.toNatClampNeg) &&& 63) = 3) → (¬ ((E.2.1 x3.toNatClampNeg) &&& 63) = 4) → (¬ ((E.2.1 x3.toNatClampNeg) &&& 63) = 5) → (¬ ((E.2.1 x3.toNatClampNeg) &&& 63) = 6) → (¬ ((E.2.1 x3.toNatClampNeg) &&& 63) = 7) → (¬ ((E.2.1 x3.toNatClampNeg) &&& 63) = 8) → (¬ ((E.2.1 x3.toNatClampNeg) &&& 63) = 9) → (¬ ((E.2.1 x3.toNatClampNeg) &&& 63) = 10) → (¬ ((E.2.1 x3.toNatClampNeg) &&& 63) = 11) → (¬ ((E.2.1 x3.toNatClampNeg) &&& 63) = 12) → (¬ ((E.2.1 x3.toNatClampNeg) &&& 63) = 13) → (¬ ((E.2.1 x3.toNatClampNeg) &&& 63) = 14) → (¬ ((E.2.1 x3.toNatClampNeg) &&& 63) = 15) → (((E.2.1 x3.toNatClampNeg) &&& 63) = 16) → (¬ (x3 + 1) < 0 ∧ (x3 + 1).toNatClampNeg < E.1)) (b29 : (¬ ((Int32.ofNat E.1) - 6) < x3) → (¬ ((E.2.1 x3.toNatClampNeg) &&& 63) = 0) → (¬ ((E.2.1 x3.toNatClampNeg) &&& 63) = 1) → (¬ ((E.2.1 x3.toNatClampNeg) &&& 63) = 2) → (¬ ((E.2.1 x3.toNatClampNeg) &&& 63) = 3) → (¬ ((E.2.1 x3.toNatClampNeg) &&& 63) = 4) → (¬ ((E.2.1 x3.toNatClampNeg) &&& 63) = 5) → (¬ ((E.2.1 x3.toNatClampNeg) &&& 63) = 6) → (¬ ((E.2.1 x3.toNatClampNeg) &&& 63) = 7) → (¬ ((E.2.1 x3.toNatClampNeg) &&& 63) = 8) → (¬ ((E.2.1 x3.toNatClampNeg) &&& 63) = 9) → (¬ ((E.2.1 x3.toNatClampNeg) &&& 63) = 10) → (¬ ((E.2.1 x3.toNatClampNeg) &&& 63) = 11) → (¬ ((E.2.1 x3.toNatClampNeg) &&& 63) = 12) → (¬ ((E.2.1 x3.toNatClampNeg) &&& 63) = 13) → (¬ ((E.2.1 x3.toNatClampNeg) &&& 63) = 14) → (¬ ((E.2.1 x3.toNatClampNeg) &&& 63) = 15) → (((E.2.1 x3.toNatClampNeg) &&& 63) = 16) → (¬ (x3 + 2) < 0 ∧ (x3 + 2).toNatClampNeg < E.1)) (b30 : (¬ ((Int32.ofNat E.1) - 6) < x3) → (¬ ((E.2.1 x3.toNatClampNeg) &&& 63) = 0) → (¬ ((E.2.1 x3.toNatClampNeg) &&& 63) = 1) → (¬ ((E.2.1 x3.toNatClampNeg) &&& 63) = 2) → (¬ ((E.2.1 x3.toNatClampNeg) &&& 63) = 3) → (¬ ((E.2.1 x3.toNatClampNeg) &&& 63) = 4) → (¬ ((E.2.1 x3.toNatClampNeg) &&& 63) = 5) → (¬ ((E.2.1 x3.toNatClampNeg) &&& 63) = 6) → (¬ ((E.2.1 x3.toNatClampNeg) &&& 63) = 7) → (¬ ((E.2.1 x3.toNatClampNeg) &&& 63) = 8) → (¬ ((E.2.1 x3.toNatClampNeg) &&& 63) = 9) → (¬ ((E.2.1 x3.toNatClampNeg) &&& 63) = 10) → (¬ ((E.2.1 x3.toNatClampNeg) &&& 63) = 11) → (¬ ((E.2.1 x3.toNatClampNeg) &&& 63) = 12) → (¬ ((E.2.1 x3.toNatClampNeg) &&& 63) = 13) → (¬ ((E.2.1 x3.toNatClampNeg) &&& 63) = 14) → (¬ ((E.2.1 x3.toNatClampNeg) &&& 63) = 15) → (((E.2.1 x3.toNatClampNeg) &&& 63) = 16) → (¬ (x3 + 3) < 0 ∧ (x3 + 3).toNatClampNeg < E.1)) (b31 : (¬ ((Int32.ofNat E.1) - 6) < x3) → (¬ ((E.2.1 x3.toNatClampNeg) &&& 63) = 0) → (¬ ((E.2.1 x3.toNatClampNeg) &&& 63) = 1) → (¬ ((E.2.1 x3.toNatClampNeg) &&& 63) = 2) → (¬ ((E.2.1 x3.toNatClampNeg) &&& 63) = 3) → (¬ ((E.2.1 x3.toNatClampNeg) &&& 63) = 4) → (¬ ((E.2.1 x3.toNatClampNeg) &&& 63) = 5) → (¬ ((E.2.1 x3.toNatClampNeg) &&& 63) = 6) → (¬ ((E.2.1 x3.toNatClampNeg) &&& 63) = 7) → (¬ ((E.2.1 x3.toNatClampNeg) &&& 63) = 8) → (¬ ((E.2.1 x3.toNatClampNeg) &&& 63) = 9) → (¬ ((E.2.1 x3.toNatClampNeg) &&& 63) = 10) → (¬ ((E.2.1 x3.toNatClampNeg) &&& 63) = 11) → (¬ ((E.2.1 x3.toNatClampNeg) &&& 63) = 12) → (¬ ((E.2.1 x3.toNatClampNeg) &&& 63) = 13) → (¬ ((E.2.1 x3.toNatClampNeg) &&& 63) = 14) → (¬ ((E.2.1 x3.toNatClampNeg) &&& 63) = 15) → (((E.2.1 x3.toNatClampNeg) &&& 63) = 16) → (¬ (x3 + 4) < 0 ∧ (x3 + 4).toNatClampNeg < E.1)) (b32 : (¬ ((Int32.ofNat E.1) - 6) < x3) → (¬ ((E.2.1 x3.toNatClampNeg) &&& 63) = 0) → (¬ ((E.2.1 x3.toNatClampNeg) &&& 63) = 1) → (¬ ((E.2.1 x3.toNatClampNeg) &&& 63) = 2) → (¬ ((E.2.1 x3.toNatClampNeg) &&& 63) = 3) → (¬ ((E.2.1 x3.toNatClampNeg) &&& 63) = 4) → (¬ ((E.2.1 x3.toNatClampNeg) &&& 63) = 5) → (¬ ((E.2.1 x3.toNatClampNeg) &&& 63) = 6) → (¬ ((E.2.1 x3.toNatClampNeg) &&& 63) = 7) → (¬ ((E.2.1 x3.toNatClampNeg) &&& 63) = 8) → (¬ ((E.2.1 x3.toNatClampNeg) &&& 63) = 9) → (¬ ((E.2.1 x3.toNatClampNeg) &&& 63) = 10) → (¬ ((E.2.1 x3.toNatClampNeg) &&& 63) = 11) → (¬ ((E.2.1 x3.toNatClampNeg) &&& 63) = 12) → (¬ ((E.2.1 x3.toNatClampNeg) &&& 63) = 13) → (¬ ((E.2.1 x3.toNatClampNeg) &&& 63) = 14) → (¬ ((E.2.1 x3.toNatClampNeg) &&& 63) = 15) → (¬ ((E.2.1 x3.toNatClampNeg) &&& 63) = 16) → (((E.2.1 x3.toNatClampNeg) &&& 63) = 17) → (¬ (x3 + 1) < 0 ∧ (x3 + 1).toNatClampNeg < E.1)) (b33 : (¬ ((Int32.ofNat E.1) - 6) < x3) → (¬ ((E.2.1 x3.toNatClampNeg) &&& 63) = 0) → (¬ ((E.2.1 x3.toNatClampNeg) &&& 63) = 1) → (¬ ((E.2.1 x3.toNatClampNeg) &&& 63) = 2) → (¬ ((E.2.1 x3.toNatClampNeg) &&& 63) = 3) → (¬ ((E.2.1 x3.toNatClampNeg) &&& 63) = 4) → (¬ ((E.2.1 x3.toNatClampNeg) &&& 63) = 5) → (¬ ((E.2.1 x3.toNatClampNeg) &&& 63) = 6) → (¬ ((E.2.1 x3.toNatClampNeg) &&& 63) = 7) → (¬ ((E.2.1 x3.toNatClampNeg) &&& 63) = 8) → (¬ ((E.2.1 x3.toNatClampNeg) &&& 63) = 9) → (¬ ((E.2.1 x3.toNatClampNeg) &&& 63) = 10) → (¬ ((E.2.1 x3.toNatClampNeg) &&& 63) = 11) → (¬ ((E.2.1 x3.toNatClampNeg) &&& 63) = 12) → (¬ ((E.2.1 x3.toNatClampNeg) &&& 63) = 13) → (¬ ((E.2.1 x3.toNatClampNeg) &&& 63) = 14) → (¬ ((E.2.1 x3.toNatClampNeg) &&& 63) = 15) → (¬ ((E.2.1 x3.toNatClampNeg) &&& 63) = 16) → (¬ ((E.2.1 x3.toNatClampNeg) &&& 63) = 17) → (((E.2.1 x3.toNatClampNeg) &&& 63) = 18) → (¬ (x3 + 1) < 0 ∧ (x3 + 1).toNatClampNeg < E.1)) (b34 : (¬ ((Int32.ofNat E.1) - 6) < x3) → (¬ ((E.2.1 x3.toNatClampNeg) &&& 63) = 0) → (¬ ((E.2.1 x3.toNatClampNeg) &&& 63) = 1) → (¬ ((E.2.1 x3.toNatClampNeg) &&& 63) = 2) → (¬ ((E.2.1 x3.toNatClampNeg) &&& 63) = 3) → (¬ ((E.2.1 x3.toNatClampNeg) &&& 63) = 4) → (¬ ((E.2.1 x3.toNatClampNeg) &&& 63) = 5) → (¬ ((E.2.1 x3.toNatClampNeg) &&& 63) = 6) → (¬ ((E.2.1 x3.toNatClampNeg) &&& 63) = 7) → (¬ ((E.2.1 x3.toNatClampNeg) &&& 63) = 8) → (¬ ((E.2.1 x3.toNatClampNeg) &&& 63) = 9) → (¬ ((E.2.1 x3.toNatClampNeg) &&& 63) = 10) → (¬ ((E.2.1 x3.toNatClampNeg) &&& 63) = 11) → (¬ ((E.2.1 x3.toNatClampNeg) &&& 63) = 12) → (¬ ((E.2.1 x3.toNatClampNeg) &&& 63) = 13) → (¬ ((E.2.1 x3.toNatClampNeg) &&& 63) = 14) → (¬ ((E.2.1 x3.toNatClampNeg) &&& 63) = 15) → (¬ ((E.2.1 x3.toNatClampNeg) &&& 63) = 16) → (¬ ((E.2.1 x3.toNatClampNeg) &&& 63) = 17) → (¬ ((E.2.1 x3.toNatClampNeg) &&& 63) = 18) → (((E.2.1 x3.toNatClampNeg) &&& 63) = 19) → (¬ (x3 + 1) < 0 ∧ (x3 + 1).toNatClampNeg < E.1)) (b35 : (¬ ((Int32.ofNat E.1) - 6) < x3) → (¬ ((E.2.1 x3.toNatClampNeg) &&& 63) = 0) → (¬ ((E.2.1 x3.toNatClampNeg) &&& 63) = 1) → (¬ ((E.2.1 x3.toNatClampNeg) &&& 63) = 2) → (¬ ((E.2.1 x3.toNatClampNeg) &&& 63) = 3) → (¬ ((E.2.1 x3.toNatClampNeg) &&& 63) = 4) → (¬ ((E.2.1 x3.toNatClampNeg) &&& 63) = 5) → (¬ ((E.2.1 x3.toNatClampNeg) &&& 63) = 6) → (¬ ((E.2.1 x3.toNatClampNeg) &&& 63) = 7) → (¬ ((E.2.1 x3.toNatClampNeg) &&& 63) = 8) → (¬ ((E.2.1 x3.toNatClampNeg) &&& 63) = 9) → (¬ ((E.2.1 x3.toNatClampNeg) &&& 63) = 10) → (¬ ((E.2.1 x3.toNatClampNeg) &&& 63) = 11) → (¬ ((E.2.1 x3.toNatClampNeg) &&& 63) = 12) → (¬ ((E.2.1 x3.toNatClampNeg) &&& 63) = 13) → (¬ ((E.2.1 x3.toNatClampNeg) &&& 63) = 14) → (¬ ((E.2.1 x3.toNatClampNeg) &&& 63) = 15) → (¬ ((E.2.1 x3.toNatClampNeg) &&& 63) = 16) → (¬ ((E.2.1 x3.toNatClampNeg) &&& 63) = 17) → (¬ ((E.2.1 x3.toNatClampNeg) &&& 63) = 18) → (¬ ((E.2.1 x3.toNatClampNeg) &&& 63) = 19) → (((E.2.1 x3.toNatClampNeg) &&& 63) = 20) → (¬ (x3 + 1) < 0 ∧ (x3 + 1).toNatClampNeg < E.1)) (b36 : (¬ ((Int32.ofNat E.1) - 6) < x3) → (¬ ((E.2.1 x3.toNatClampNeg) &&& 63) = 0) → (¬ ((E.2.1 x3.toNatClampNeg) &&& 63) = 1) → (¬ ((E.2.1 x3.toNatClampNeg) &&& 63) = 2) → (¬ ((E.2.1 x3.toNatClampNeg) &&& 63) = 3) → (¬ ((E.2.1 x3.toNatClampNeg) &&& 63) = 4) → (¬ ((E.2.1 x3.toNatClampNeg) &&& 63) = 5) → (¬ ((E.2.1 x3.toNatClampNeg) &&& 63) = 6) → (¬ ((E.2.1 x3.toNatClampNeg) &&& 63) = 7) → (¬ ((E.2.1 x3.toNatClampNeg) &&& 63) = 8) → (¬ ((E.2.1 x3.toNatClampNeg) &&& 63) = 9) → (¬ ((E.2.1 x3.toNatClampNeg) &&& 63) = 10) → (¬ ((E.2.1 x3.toNatClampNeg) &&& 63) = 11) → (¬ ((E.2.1 x3.toNatClampNeg) &&& 63) = 12) → (¬ ((E.2.1 x3.toNatClampNeg) &&& 63) = 13) → (¬ ((E.2.1 x3.toNatClampNeg) &&& 63) = 14) → (¬ ((E.2.1 x3.toNatClampNeg) &&& 63) = 15) → (¬ ((E.2.1 x3.toNatClampNeg) &&& 63) = 16) → (¬ ((E.2.1 x3.toNatClampNeg) &&& 63) = 17) → (¬ ((E.2.1 x3.toNatClampNeg) &&& 63) = 18) → (¬ ((E.2.1 x3.toNatClampNeg) &&& 63) = 19) → (((E.2.1 x3.toNatClampNeg) &&& 63) = 20) → (¬ (x3 + 2) < 0 ∧ (x3 + 2).toNatClampNeg < E.1)) (b37 : (¬ ((Int32.ofNat E.1) - 6) < x3) → (¬ ((E.2.1 x3.toNatClampNeg) &&& 63) = 0) → (¬ ((E.2.1 x3.toNatClampNeg) &&& 63) = 1) → (¬ ((E.2.1 x3.toNatClampNeg) &&& 63) = 2) → (¬ ((E.2.1 x3.toNatClampNeg) &&& 63) = 3) → (¬ ((E.2.1 x3.toNatClampNeg) &&& 63) = 4) → (¬ ((E.2.1 x3.toNatClampNeg) &&& 63) = 5) → (¬ ((E.2.1 x3.toNatClampNeg) &&& 63) = 6) → (¬ ((E.2.1 x3.toNatClampNeg) &&& 63) = 7) → (¬ ((E.2.1 x3.toNatClampNeg) &&& 63) = 8) → (¬ ((E.2.1 x3.toNatClampNeg) &&& 63) = 9) → (¬ ((E.2.1 x3.toNatClampNeg) &&& 63) = 10) → (¬ ((E.2.1 x3.toNatClampNeg) &&& 63) = 11) → (¬ ((E.2.1 x3.toNatClampNeg) &&& 63) = 12) → (¬ ((E.2.1 x3.toNatClampNeg) &&& 63) = 13) → (¬ ((E.2.1 x3.toNatClampNeg) &&& 63) = 14) → (¬ ((E.2.1 x3.toNatClampNeg) &&& 63) = 15) → (¬ ((E.2.1 x3.toNatClampNeg) &&& 63) = 16) → (¬ ((E.2.1 x3.toNatClampNeg) &&& 63) = 17) → (¬ ((E.2.1 x3.toNatClampNeg) &&& 63) = 18) → (¬ ((E.2.1 x3.toNatClampNeg) &&& 63) = 19) → (((E.2.1 x3.toNatClampNeg) &&& 63) = 20) → (¬ (x3 + 3) < 0 ∧ (x3 + 3).toNatClampNeg < E.1)) (b38 : (¬ ((Int32.ofNat E.1) - 6) < x3) → (¬ ((E.2.1 x3.toNatClampNeg) &&& 63) = 0) → (¬ ((E.2.1 x3.toNatClampNeg) &&& 63) = 1) → (¬ ((E.2.1 x3.toNatClampNeg) &&& 63) = 2) → (¬ ((E.2.1 x3.toNatClampNeg) &&& 63) = 3) → (¬ ((E.2.1 x3.toNatClampNeg) &&& 63) = 4) → (¬ ((E.2.1 x3.toNatClampNeg) &&& 63) = 5) → (¬ ((E.2.1 x3.toNatClampNeg) &&& 63) = 6) → (¬ ((E.2.1 x3.toNatClampNeg) &&& 63) = 7) → (¬ ((E.2.1 x3.toNatClampNeg) &&& 63) = 8) → (¬ ((E.2.1 x3.toNatClampNeg) &&& 63) = 9) → (¬ ((E.2.1 x3.toNatClampNeg) &&& 63) = 10) → (¬ ((E.2.1 x3.toNatClampNeg) &&& 63) = 11) → (¬ ((E.2.1 x3.toNatClampNeg) &&& 63) = 12) → (¬ ((E.2.1 x3.toNatClampNeg) &&& 63) = 13) → (¬ ((E.2.1 x3.toNatClampNeg) &&& 63) = 14) → (¬ ((E.2.1 x3.toNatClampNeg) &&& 63) = 15) → (¬ ((E.2.1 x3.toNatClampNeg) &&& 63) = 16) → (¬ ((E.2.1 x3.toNatClampNeg) &&& 63) = 17) → (¬ ((E.2.1 x3.toNatClampNeg) &&& 63) = 18) → (¬ ((E.2.1 x3.toNatClampNeg) &&& 63) = 19) → (¬ ((E.2.1 x3.toNatClampNeg) &&& 63) = 20) → (((E.2.1 x3.toNatClampNeg) &&& 63) = 21) → (¬ (x3 + 1) < 0 ∧ (x3 + 1).toNatClampNeg < E.1)) (b39 : (¬ ((Int32.ofNat E.1) - 6) < x3) → (¬ ((E.2.1 x3.toNatClampNeg) &&& 63) = 0) → (¬ ((E.2.1 x3.toNatClampNeg) &&& 63) = 1) → (¬ ((E.2.1 x3.toNatClampNeg) &&& 63) = 2) → (¬ ((E.2.1 x3.toNatClampNeg) &&& 63) = 3) → (¬ ((E.2.1 x3.toNatClampNeg) &&& 63) = 4) → (¬ ((E.2.1 x3.toNatClampNeg) &&& 63) = 5) → (¬ ((E.2.1 x3.toNatClampNeg) &&& 63) = 6) → (¬ ((E.2.1 x3.toNatClampNeg) &&& 63) = 7) → (¬ ((E.2.1 x3.toNatClampNeg) &&& 63) = 8) → (¬ ((E.2.1 x3.toNatClampNeg) &&& 63) = 9) → (¬ ((E.2.1 x3.toNatClampNeg) &&& 63) = 10) → (¬ ((E.2.1 x3.toNatClampNeg) &&& 63) = 11) → (¬ ((E.2.1 x3.toNatClampNeg) &&& 63) = 12) → (¬ ((E.2.1 x3.toNatClampNeg) &&& 63) = 13) → (¬ ((E.2.1 x3.toNatClampNeg) &&& 63) = 14) → (¬ ((E.2.1 x3.toNatClampNeg) &&& 63) = 15) → (¬ ((E.2.1 x3.toNatClampNeg) &&& 63) = 16) → (¬ ((E.2.1 x3.toNatClampNeg) &&& 63) = 17) → (¬ ((E.2.1 x3.toNatClampNeg) &&& 63) = 18) → (¬ ((E.2.1 x3.toNatClampNeg) &&& 63) = 19) → (¬ ((E.2.1 x3.toNatClampNeg) &&& 63) = 20) → (¬ ((E.2.1 x3.toNatClampNeg) &&& 63) = 21) → (¬ ((E.2.1 x3.toNatClampNeg) &&& 63) = 22) → (((E.2.1 x3.toNatClampNeg) &&& 63) = 23) → (¬ (x3 + 1) < 0 ∧ (x3 + 1).toNatClampNeg < E.1)) (b40 : (¬ ((Int32.ofNat E.1) - 6) < x3) → (¬ ((E.2.1 x3.toNatClampNeg) &&& 63) = 0) → (¬ ((E.2.1 x3.toNatClampNeg) &&& 63) = 1) → (¬ ((E.2.1 x3.toNatClampNeg) &&& 63) = 2) → (¬ ((E.2.1 x3.toNatClampNeg) &&& 63) = 3) → (¬ ((E.2.1 x3.toNatClampNeg) &&& 63) = 4) → (¬ ((E.2.1 x3.toNatClampNeg) &&& 63) = 5) → (¬ ((E.2.1 x3.toNatClampNeg) &&& 63) = 6) → (¬ ((E.2.1 x3.toNatClampNeg) &&& 63) = 7) → (¬ ((E.2.1 x3.toNatClampNeg) &&& 63) = 8) → (¬ ((E.2.1 x3.toNatClampNeg) &&& 63) = 9) → (¬ ((E.2.1 x3.toNatClampNeg) &&& 63) = 10) → (¬ ((E.2.1 x3.toNatClampNeg) &&& 63) = 11) → (¬ ((E.2.1 x3.toNatClampNeg) &&& 63) = 12) → (¬ ((E.2.1 x3.toNatClampNeg) &&& 63) = 13) → (¬ ((E.2.1 x3.toNatClampNeg) &&& 63) = 14) → (¬ ((E.2.1 x3.toNatClampNeg) &&& 63) = 15) → (¬ ((E.2.1 x3.toNatClampNeg) &&& 63) = 16) → (¬ ((E.2.1 x3.toNatClampNeg) &&& 63) = 17) → (¬ ((E.2.1 x3.toNatClampNeg) &&& 63) = 18) → (¬ ((E.2.1 x3.toNatClampNeg) &&& 63) = 19) → (¬ ((E.2.1 x3.toNatClampNeg) &&& 63) = 20) → (¬ ((E.2.1 x3.toNatClampNeg) &&& 63) = 21) → (¬ ((E.2.1 x3.toNatClampNeg) &&& 63) = 22) → (((E.2.1 x3.toNatClampNeg) &&& 63) = 23) → (¬ (x3 + 2) < 0 ∧ (x3 + 2).toNatClampNeg < E.1)) (b41 : (¬ ((Int32.ofNat E.1) - 6) < x3) → (¬ ((E.2.1 x3.toNatClampNeg) &&& 63) = 0) → (¬ ((E.2.1 x3.toNatClampNeg) &&& 63) = 1) → (¬ ((E.2.1 x3.toNatClampNeg) &&& 63) = 2) → (¬ ((E.2.1 x3.toNatClampNeg) &&& 63) = 3) → (¬ ((E.2.1 x3.toNatClampNeg) &&& 63) = 4) → (¬ ((E.2.1 x3.toNatClampNeg) &&& 63) = 5) → (¬ ((E.2.1 x3.toNatClampNeg) &&& 63) = 6) → (¬ ((E.2.1 x3.toNatClampNeg) &&& 63) = 7) → (¬ ((E.2.1 x3.toNatClampNeg) &&& 63) = 8) → (¬ ((E.2.1 x3.toNatClampNeg) &&& 63) = 9) → (¬ ((E.2.1 x3.toNatClampNeg) &&& 63) = 10) → (¬ ((E.2.1 x3.toNatClampNeg) &&& 63) = 11) → (¬ ((E.2.1 x3.toNatClampNeg) &&& 63) = 12) → (¬ ((E.2.1 x3.toNatClampNeg) &&& 63) = 13) → (¬ ((E.2.1 x3.toNatClampNeg) &&& 63) = 14) → (¬ ((E.2.1 x3.toNatClampNeg) &&& 63) = 15) → (¬ ((E.2.1 x3.toNatClampNeg) &&& 63) = 16) → (¬ ((E.2.1 x3.toNatClampNeg) &&& 63) = 17) → (¬ ((E.2.1 x3.toNatClampNeg) &&& 63) = 18) → (¬ ((E.2.1 x3.toNatClampNeg) &&& 63) = 19) → (¬ ((E.2.1 x3.toNatClampNeg) &&& 63) = 20) → (¬ ((E.2.1 x3.toNatClampNeg) &&& 63) = 21) → (¬ ((E.2.1 x3.toNatClampNeg) &&& 63) = 22) → (¬ ((E.2.1 x3.toNatClampNeg) &&& 63) = 23) → (((E.2.1 x3.toNatClampNeg) &&& 63) = 24) → (¬ (x3 + 1) < 0 ∧ (x3 + 1).toNatClampNeg < E.1)) (b42 : (¬ ((Int32.ofNat E.1) - 6) < x3) → (¬ ((E.2.1 x3.toNatClampNeg) &&& 63) = 0) → (¬ ((E.2.1 x3.toNatClampNeg) &&& 63) = 1) → (¬ ((E.2.1 x3.toNatClampNeg) &&& 63) = 2) → (¬ ((E.2.1 x3.toNatClampNeg) &&& 63) = 3) → (¬ ((E.2.1 x3.toNatClampNeg) &&& 63) = 4) → (¬ ((E.2.1 x3.toNatClampNeg) &&& 63) = 5) → (¬ ((E.2.1 x3.toNatClampNeg) &&& 63) = 6) → (¬ ((E.2.1 x3.toNatClampNeg) &&& 63) = 7) → (¬ ((E.2.1 x3.toNatClampNeg) &&& 63) = 8) → (¬ ((E.2.1 x3.toNatClampNeg) &&& 63) = 9) → (¬ ((E.2.1 x3.toNatClampNeg) &&& 63) = 10) → (¬ ((E.2.1 x3.toNatClampNeg) &&& 63) = 11) → (¬ ((E.2.1 x3.toNatClampNeg) &&& 63) = 12) → (¬ ((E.2.1 x3.toNatClampNeg) &&& 63) = 13) → (¬ ((E.2.1 x3.toNatClampNeg) &&& 63) = 14) → (¬ ((E.2.1 x3.toNatClampNeg) &&& 63) = 15) → (¬ ((E.2.1 x3.toNatClampNeg) &&& 63) = 16) → (¬ ((E.2.1 x3.toNatClampNeg) &&& 63) = 17) → (¬ ((E.2.1 x3.toNatClampNeg) &&& 63) = 18) → (¬ ((E.2.1 x3.toNatClampNeg) &&& 63) = 19) → (¬ ((E.2.1 x3.toNatClampNeg) &&& 63) = 20) → (¬ ((E.2.1 x3.toNatClampNeg) &&& 63) = 21) → (¬ ((E.2.1 x3.toNatClampNeg) &&& 63) = 22) → (¬ ((E.2.1 x3.toNatClampNeg) &&& 63) = 23) → (¬ ((E.2.1 x3.toNatClampNeg) &&& 63) = 24) → (((E.2.1 x3.toNatClampNeg) &&& 63) = 25) → (¬ (x3 + 1) < 0 ∧ (x3 + 1).toNatClampNeg < E.1)) (b43 : (¬ ((Int32.ofNat E.1) - 6) < x3) → (¬ ((E.2.1 x3.toNatClampNeg) &&& 63) = 0) → (¬ ((E.2.1 x3.toNatClampNeg) &&& 63) = 1) → (¬ ((E.2.1 x3.toNatClampNeg) &&& 63) = 2) → (¬ ((E.2.1 x3.toNatClampNeg) &&& 63) = 3) → (¬ ((E.2.1 x3.toNatClampNeg) &&& 63) = 4) → (¬ ((E.2.1 x3.toNatClampNeg) &&& 63) = 5) → (¬ ((E.2.1 x3.toNatClampNeg) &&& 63) = 6) → (¬ ((E.2.1 x3.toNatClampNeg) &&& 63) = 7) → (¬ ((E.2.1 x3.toNatClampNeg) &&& 63) = 8) → (¬ ((E.2.1 x3.toNatClampNeg) &&& 63) = 9) → (¬ ((E.2.1 x3.toNatClampNeg) &&& 63) = 10) → (¬ ((E.2.1 x3.toNatClampNeg) &&& 63) = 11) → (¬ ((E.2.1 x3.toNatClampNeg) &&& 63) = 12) → (¬ ((E.2.1 x3.toNatClampNeg) &&& 63) = 13) → (¬ ((E.2.1 x3.toNatClampNeg) &&& 63) = 14) → (¬ ((E.2.1 x3.toNatClampNeg) &&& 63) = 15) → (¬ ((E.2.1 x3.toNatClampNeg) &&& 63) = 16) → (¬ ((E.2.1 x3.toNatClampNeg) &&& 63) = 17) → (¬ ((E.2.1 x3.toNatClampNeg) &&& 63) = 18) → (¬ ((E.2.1 x3.toNatClampNeg) &&& 63) = 19) → (¬ ((E.2.1 x3.toNatClampNeg) &&& 63) = 20) → (¬ ((E.2.1 x3.toNatClampNeg) &&& 63) = 21) → (¬ ((E.2.1 x3.toNatClampNeg) &&& 63) = 22) → (¬ ((E.2.1 x3.toNatClampNeg) &&& 63) = 23) → (¬ ((E.2.1 x3.toNatClampNeg) &&& 63) = 24) → (¬ ((E.2.1 x3.toNatClampNeg) &&& 63) = 25) → (((E.2.1 x3.toNatClampNeg) &&& 63) = 26) → (¬ (x3 + 1) < 0 ∧ (x3 + 1).toNatClampNeg < E.1)) (b44 : (¬ ((Int32.ofNat E.1) - 6) < x3) → (¬ ((E.2.1 x3.toNatClampNeg) &&& 63) = 0) → (¬ ((E.2.1 x3.toNatClampNeg) &&& 63) = 1) → (¬ ((E.2.1 x3.toNatClampNeg) &&& 63) = 2) → (¬ ((E.2.1 x3.toNatClampNeg) &&& 63) = 3) → (¬ ((E.2.1 x3.toNatClampNeg) &&& 63) = 4) → (¬ ((E.2.1 x3.toNatClampNeg) &&& 63) = 5) → (¬ ((E.2.1 x3.toNatClampNeg) &&& 63) = 6) → (¬ ((E.2.1 x3.toNatClampNeg) &&& 63) = 7) → (¬ ((E.2.1 x3.toNatClampNeg) &&& 63) = 8) → (¬ ((E.2.1 x3.toNatClampNeg) &&& 63) = 9) → (¬ ((E.2.1 x3.toNatClampNeg) &&& 63) = 10) → (¬ ((E.2.1 x3.toNatClampNeg) &&& 63) = 11) → (¬ ((E.2.1 x3.toNatClampNeg) &&& 63) = 12) → (¬ ((E.2.1 x3.toNatClampNeg) &&& 63) = 13) → (¬ ((E.2.1 x3.toNatClampNeg) &&& 63) = 14) → (¬ ((E.2.1 x3.toNatClampNeg) &&& 63) = 15) → (¬ ((E.2.1 x3.toNatClampNeg) &&& 63) = 16) → (¬ ((E.2.1 x3.toNatClampNeg) &&& 63) = 17) → (¬ ((E.2.1 x3.toNatClampNeg) &&& 63) = 18) → (¬ ((E.2.1 x3.toNatClampNeg) &&& 63) = 19) → (¬ ((E.2.1 x3.toNatClampNeg) &&& 63) = 20) → (¬ ((E.2.1 x3.toNatClampNeg) &&& 63) = 21) → (¬ ((E.2.1 x3.toNatClampNeg) &&& 63) = 22) → (¬ ((E.2.1 x3.toNatClampNeg) &&& 63) = 23) → (¬ ((E.2.1 x3.toNatClampNeg) &&& 63) = 24) → (¬ ((E.2.1 x3.toNatClampNeg) &&& 63) = 25) → (¬ ((E.2.1 x3.toNatClampNeg) &&& 63) = 26) → (((E.2.1 x3.toNatClampNeg) &&& 63) = 27) → (¬ (x3 + 1) < 0 ∧ (x3 + 1).toNatClampNeg < E.1)) (b45 : (¬ ((Int32.ofNat E.1) - 6) < x3) → (¬ ((E.2.1 x3.toNatClampNeg) &&& 63) = 0) → (¬ ((E.2.1 x3.toNatClampNeg) &&& 63) = 1) → (¬ ((E.2.1 x3.toNatClampNeg) &&& 63) = 2) → (¬ ((E.2.1 x3.toNatClampNeg) &&& 63) = 3) → (¬ ((E.2.1 x3.toNatClampNeg) &&& 63) = 4) → (¬ ((E.2.1 x3.toNatClampNeg) &&& 63) = 5) → (¬ ((E.2.1 x3.toNatClampNeg) &&& 63) = 6) → (¬ ((E.2.1 x3.toNatClampNeg) &&& 63) = 7) → (¬ ((E.2.1 x3.toNatClampNeg) &&& 63) = 8) → (¬ ((E.2.1 x3.toNatClampNeg) &&& 63) = 9) → (¬ ((E.2.1 x3.toNatClampNeg) &&& 63) = 10) → (¬ ((E.2.1 x3.toNatClampNeg) &&& 63) = 11) → (¬ ((E.2.1 x3.toNatClampNeg) &&& 63) = 12) → (¬ ((E.2.1 x3.toNatClampNeg) &&& 63) = 13) → (¬ ((E.2.1 x3.toNatClampNeg) &&& 63) = 14) → (¬ ((E.2.1 x3.toNatClampNeg) &&& 63) = 15) → (¬ ((E.2.1 x3.toNatClampNeg) &&& 63) = 16) → (¬ ((E.2.1 x3.toNatClampNeg) &&& 63) = 17) → (¬ ((E.2.1 x3.toNatClampNeg) &&& 63) = 18) → (¬ ((E.2.1 x3.toNatClampNeg) &&& 63) = 19) → (¬ ((E.2.1 x3.toNatClampNeg) &&& 63) = 20) → (¬ ((E.2.1 x3.toNatClampNeg) &&& 63) = 21) → (¬ ((E.2.1 x3.toNatClampNeg) &&& 63) = 22) → (¬ ((E.2.1 x3.toNatClampNeg) &&& 63) = 23) → (¬ ((E.2.1 x3.toNatClampNeg) &&& 63) = 24) → (¬ ((E.2.1 x3.toNatClampNeg) &&& 63) = 25) → (¬ ((E.2.1 x3.toNatClampNeg) &&& 63) = 26) → (((E.2.1 x3.toNatClampNeg) &&& 63) = 27) → (¬ (x3 + 2) < 0 ∧ (x3 + 2).toNatClampNeg < E.1)) (b46 : (¬ ((Int32.ofNat E.1) - 6) < x3) → (¬ ((E.2.1 x3.toNatClampNeg) &&& 63) = 0) → (¬ ((E.2.1 x3.toNatClampNeg) &&& 63) = 1) → (¬ ((E.2.1 x3.toNatClampNeg) &&& 63) = 2) → (¬ ((E.2.1 x3.toNatClampNeg) &&& 63) = 3) → (¬ ((E.2.1 x3.toNatClampNeg) &&& 63) = 4) → (¬ ((E.2.1 x3.toNatClampNeg) &&& 63) = 5) → (¬ ((E.2.1 x3.toNatClampNeg) &&& 63) = 6) → (¬ ((E.2.1 x3.toNatClampNeg) &&& 63) = 7) → (¬ ((E.2.1 x3.toNatClampNeg) &&& 63) = 8) → (¬ ((E.2.1 x3.toNatClampNeg) &&& 63) = 9) → (¬ ((E.2.1 x3.toNatClampNeg) &&& 63) = 10) → (¬ ((E.2.1 x3.toNatClampNeg) &&& 63) = 11) → (¬ ((E.2.1 x3.toNatClampNeg) &&& 63) = 12) → (¬ ((E.2.1 x3.toNatClampNeg) &&& 63) = 13) → (¬ ((E.2.1 x3.toNatClampNeg) &&& 63) = 14) → (¬ ((E.2.1 x3.toNatClampNeg) &&& 63) = 15) → (¬ ((E.2.1 x3.toNatClampNeg) &&& 63) = 16) → (¬ ((E.2.1 x3.toNatClampNeg) &&& 63) = 17) → (¬ ((E.2.1 x3.toNatClampNeg) &&& 63) = 18) → (¬ ((E.2.1 x3.toNatClampNeg) &&& 63) = 19) → (¬ ((E.2.1 x3.toNatClampNeg) &&& 63) = 20) → (¬ ((E.2.1 x3.toNatClampNeg) &&& 63) = 21) → (¬ ((E.2.1 x3.toNatClampNeg) &&& 63) = 22) → (¬ ((E.2.1 x3.toNatClampNeg) &&& 63) = 23) → (¬ ((E.2.1 x3.toNatClampNeg) &&& 63) = 24) → (¬ ((E.2.1 x3.toNatClampNeg) &&& 63) = 25) → (¬ ((E.2.1 x3.toNatClampNeg) &&& 63) = 26) → (((E.2.1 x3.toNatClampNeg) &&& 63) = 27) → (¬ (x3 + 3) < 0 ∧ (x3 + 3).toNatClampNeg < E.1)) (b47 : (¬ ((Int32.ofNat E.1) - 6) < x3) → (¬ ((E.2.1 x3.toNatClampNeg) &&& 63) = 0) → (¬ ((E.2.1 x3.toNatClampNeg) &&& 63) = 1) → (¬ ((E.2.1 x3.toNatClampNeg) &&& 63) = 2) → (¬ ((E.2.1 x3.toNatClampNeg) &&& 63) = 3) → (¬ ((E.2.1 x3.toNatClampNeg) &&& 63) = 4) → (¬ ((E.2.1 x3.toNatClampNeg) &&& 63) = 5) → (¬ ((E.2.1 x3.toNatClampNeg) &&& 63) = 6) → (¬ ((E.2.1 x3.toNatClampNeg) &&& 63) = 7) → (¬ ((E.2.1 x3.toNatClampNeg) &&& 63) = 8) → (¬ ((E.2.1 x3.toNatClampNeg) &&& 63) = 9) → (¬ ((E.2.1 x3.toNatClampNeg) &&& 63) = 10) → (¬ ((E.2.1 x3.toNatClampNeg) &&& 63) = 11) → (¬ ((E.2.1 x3.toNatClampNeg) &&& 63) = 12) → (¬ ((E.2.1 x3.toNatClampNeg) &&& 63) = 13) → (¬ ((E.2.1 x3.toNatClampNeg) &&& 63) = 14) → (¬ ((E.2.1 x3.toNatClampNeg) &&& 63) = 15) → (¬ ((E.2.1 x3.toNatClampNeg) &&& 63) = 16) → (¬ ((E.2.1 x3.toNatClampNeg) &&& 63) = 17) → (¬ ((E.2.1 x3.toNatClampNeg) &&& 63) = 18) → (¬ ((E.2.1 x3.toNatClampNeg) &&& 63) = 19) → (¬ ((E.2.1 x3.toNatClampNeg) &&& 63) = 20) → (¬ ((E.2.1 x3.toNatClampNeg) &&& 63) = 21) → (¬ ((E.2.1 x3.toNatClampNeg) &&& 63) = 22) → (¬ ((E.2.1 x3.toNatClampNeg) &&& 63) = 23) → (¬ ((E.2.1 x3.toNatClampNeg) &&& 63) = 24) → (¬ ((E.2.1 x3.toNatClampNeg) &&& 63) = 25) → (¬ ((E.2.1 x3.toNatClampNeg) &&& 63) = 26) → (¬ ((E.2.1 x3.toNatClampNeg) &&& 63) = 27) → (((E.2.1 x3.toNatClampNeg) &&& 63) = 28) → (¬ (x3 + 1) < 0 ∧ (x3 + 1).toNatClampNeg < E.1)) (b48 : (¬ ((Int32.ofNat E.1) - 6) < x3) → (¬ ((E.2.1 x3.toNatClampNeg) &&& 63) = 0) → (¬ ((E.2.1 x3.toNatClampNeg) &&& 63) = 1) → (¬ ((E.2.1 x3.toNatClampNeg) &&& 63) = 2) → (¬ ((E.2.1 x3.toNatClampNeg) &&& 63) = 3) → (¬ ((E.2.1 x3.toNatClampNeg) &&& 63) = 4) → (¬ ((E.2.1 x3.toNatClampNeg) &&& 63) = 5) → (¬ ((E.2.1 x3.toNatClampNeg) &&& 63) = 6) → (¬ ((E.2.1 x3.toNatClampNeg) &&& 63) = 7) → (¬ ((E.2.1 x3.toNatClampNeg) &&& 63) = 8) → (¬ ((E.2.1 x3.toNatClampNeg) &&& 63) = 9) → (¬ ((E.2.1 x3.toNatClampNeg) &&& 63) = 10) → (¬ ((E.2.1 x3.toNatClampNeg) &&& 63) = 11) → (¬ ((E.2.1 x3.toNatClampNeg) &&& 63) = 12) → (¬ ((E.2.1 x3.toNatClampNeg) &&& 63) = 13) → (¬ ((E.2.1 x3.toNatClampNeg) &&& 63) = 14) → (¬ ((E.2.1 x3.toNatClampNeg) &&& 63) = 15) → (¬ ((E.2.1 x3.toNatClampNeg) &&& 63) = 16) → (¬ ((E.2.1 x3.toNatClampNeg) &&& 63) = 17) → (¬ ((E.2.1 x3.toNatClampNeg) &&& 63) = 18) → (¬ ((E.2.1 x3.toNatClampNeg) &&& 63) = 19) → (¬ ((E.2.1 x3.toNatClampNeg) &&& 63) = 20) → (¬ ((E.2.1 x3.toNatClampNeg) &&& 63) = 21) → (¬ ((E.2.1 x3.toNatClampNeg) &&& 63) = 22) → (¬ ((E.2.1 x3.toNatClampNeg) &&& 63) = 23) → (¬ ((E.2.1 x3.toNatClampNeg) &&& 63) = 24) → (¬ ((E.2.1 x3.toNatClampNeg) &&& 63) = 25) → (¬ ((E.2.1 x3.toNatClampNeg) &&& 63) = 26) → (¬ ((E.2.1 x3.toNatClampNeg) &&& 63) = 27) → (¬ ((E.2.1 x3.toNatClampNeg) &&& 63) = 28) → (((E.2.1 x3.toNatClampNeg) &&& 63) = 29) → (¬ (x3 + 1) < 0 ∧ (x3 + 1).toNatClampNeg < E.1)) (b49 : (¬ ((Int32.ofNat E.1) - 6) < x3) → (¬ ((E.2.1 x3.toNatClampNeg) &&& 63) = 0) → (¬ ((E.2.1 x3.toNatClampNeg) &&& 63) = 1) → (¬ ((E.2.1 x3.toNatClampNeg) &&& 63) = 2) → (¬ ((E.2.1 x3.toNatClampNeg) &&& 63) = 3) → (¬ ((E.2.1 x3.toNatClampNeg) &&& 63) = 4) → (¬ ((E.2.1 x3.toNatClampNeg) &&& 63) = 5) → (¬ ((E.2.1 x3.toNatClampNeg) &&& 63) = 6) → (¬ ((E.2.1 x3.toNatClampNeg) &&& 63) = 7) → (¬ ((E.2.1 x3.toNatClampNeg) &&& 63) = 8) → (¬ ((E.2.1 x3.toNatClampNeg) &&& 63) = 9) → (¬ ((E.2.1 x3.toNatClampNeg) &&& 63) = 10) → (¬ ((E.2.1 x3.toNatClampNeg) &&& 63) = 11) → (¬ ((E.2.1 x3.toNatClampNeg) &&& 63) = 12) → (¬ ((E.2.1 x3.toNatClampNeg) &&& 63) = 13) → (¬ ((E.2.1 x3.toNatClampNeg) &&& 63) = 14) → (¬ ((E.2.1 x3.toNatClampNeg) &&& 63) = 15) → (¬ ((E.2.1 x3.toNatClampNeg) &&& 63) = 16) → (¬ ((E.2.1 x3.toNatClampNeg) &&& 63) = 17) → (¬ ((E.2.1 x3.toNatClampNeg) &&& 63) = 18) → (¬ ((E.2.1 x3.toNatClampNeg) &&& 63) = 19) → (¬ ((E.2.1 x3.toNatClampNeg) &&& 63) = 20) → (¬ ((E.2.1 x3.toNatClampNeg) &&& 63) = 21) → (¬ ((E.2.1 x3.toNatClampNeg) &&& 63) = 22) → (¬ ((E.2.1 x3.toNatClampNeg) &&& 63) = 23) → (¬ ((E.2.1 x3.toNatClampNeg) &&& 63) = 24) → (¬ ((E.2.1 x3.toNatClampNeg) &&& 63) = 25) → (¬ ((E.2.1 x3.toNatClampNeg) &&& 63) = 26) → (¬ ((E.2.1 x3.toNatClampNeg) &&& 63) = 27) → (¬ ((E.2.1 x3.toNatClampNeg) &&& 63) = 28) → (((E.2.1 x3.toNatClampNeg) &&& 63) = 29) → (¬ (x3 + 2) < 0 ∧ (x3 + 2).toNatClampNeg < E.1)) (b50 : (¬ ((Int32.ofNat E.1) - 6) < x3) → (¬ ((E.2.1 x3.toNatClampNeg) &&& 63) = 0) → (¬ ((E.2.1 x3.toNatClampNeg) &&& 63) = 1) → (¬ ((E.2.1 x3.toNatClampNeg) &&& 63) = 2) → (¬ ((E.2.1 x3.toNatClampNeg) &&& 63) = 3) → (¬ ((E.2.1 x3.toNatClampNeg) &&& 63) = 4) → (¬ ((E.2.1 x3.toNatClampNeg) &&& 63) = 5) → (¬ ((E.2.1 x3.toNatClampNeg) &&& 63) = 6) → (¬ ((E.2.1 x3.toNatClampNeg) &&& 63) = 7) → (¬ ((E.2.1 x3.toNatClampNeg) &&& 63) = 8) → (¬ ((E.2.1 x3.toNatClampNeg) &&& 63) = 9) → (¬ ((E.2.1 x3.toNatClampNeg) &&& 63) = 10) → (¬ ((E.2.1 x3.toNatClampNeg) &&& 63) = 11) → (¬ ((E.2.1 x3.toNatClampNeg) &&& 63) = 12) → (¬ ((E.2.1 x3.toNatClampNeg) &&& 63) = 13) → (¬ ((E.2.1 x3.toNatClampNeg) &&& 63) = 14) → (¬ ((E.2.1 x3.toNatClampNeg) &&& 63) = 15) → (¬ ((E.2.1 x3.toNatClampNeg) &&& 63) = 16) → (¬ ((E.2.1 x3.toNatClampNeg) &&& 63) = 17) → (¬ ((E.2.1 x3.toNatClampNeg) &&& 63) = 18) → (¬ ((E.2.1 x3.toNatClampNeg) &&& 63) = 19) → (¬ ((E.2.1 x3.toNatClampNeg) &&& 63) = 20) → (¬ ((E.2.1 x3.toNatClampNeg) &&& 63) = 21) → (¬ ((E.2.1 x3.toNatClampNeg) &&& 63) = 22) → (¬ ((E.2.1 x3.toNatClampNeg) &&& 63) = 23) → (¬ ((E.2.1 x3.toNatClampNeg) &&& 63) = 24) → (¬ ((E.2.1 x3.toNatClampNeg) &&& 63) = 25) → (¬ ((E.2.1 x3.toNatClampNeg) &&& 63) = 26) → (¬ ((E.2.1 x3.toNatClampNeg) &&& 63) = 27) → (¬ ((E.2.1 x3.toNatClampNeg) &&& 63) = 28) → (((E.2.1 x3.toNatClampNeg) &&& 63) = 29) → (¬ (x3 + 3) < 0 ∧ (x3 + 3).toNatClampNeg < E.1)) (b51 : (¬ ((Int32.ofNat E.1) - 6) < x3) → (¬ ((E.2.1 x3.toNatClampNeg) &&& 63) = 0) → (¬ ((E.2.1 x3.toNatClampNeg) &&& 63) = 1) → (¬ ((E.2.1 x3.toNatClampNeg) &&& 63) = 2) → (¬ ((E.2.1 x3.toNatClampNeg) &&& 63) = 3) → (¬ ((E.2.1 x3.toNatClampNeg) &&& 63) = 4) → (¬ ((E.2.1 x3.toNatClampNeg) &&& 63) = 5) → (¬ ((E.2.1 x3.toNatClampNeg) &&& 63) = 6) → (¬ ((E.2.1 x3.toNatClampNeg) &&& 63) = 7) → (¬ ((E.2.1 x3.toNatClampNeg) &&& 63) = 8) → (¬ ((E.2.1 x3.toNatClampNeg) &&& 63) = 9) → (¬ ((E.2.1 x3.toNatClampNeg) &&& 63) = 10) → (¬ ((E.2.1 x3.toNatClampNeg) &&& 63) = 11) → (¬ ((E.2.1 x3.toNatClampNeg) &&& 63) = 12) → (¬ ((E.2.1 x3.toNatClampNeg) &&& 63) = 13) → (¬ ((E.2.1 x3.toNatClampNeg) &&& 63) = 14) → (¬ ((E.2.1 x3.toNatClampNeg) &&& 63) = 15) → (¬ ((E.2.1 x3.toNatClampNeg) &&& 63) = 16) → (¬ ((E.2.1 x3.toNatClampNeg) &&& 63) = 17) → (¬ ((E.2.1 x3.toNatClampNeg) &&& 63) = 18) → (¬ ((E.2.1 x3.toNatClampNeg) &&& 63) = 19) → (¬ ((E.2.1 x3.toNatClampNeg) &&& 63) = 20) → (¬ ((E.2.1 x3.toNatClampNeg) &&& 63) = 21) → (¬ ((E.2.1 x3.toNatClampNeg) &&& 63) = 22) → (¬ ((E.2.1 x3.toNatClampNeg) &&& 63) = 23) → (¬ ((E.2.1 x3.toNatClampNeg) &&& 63) = 24) → (¬ ((E.2.1 x3.toNatClampNeg) &&& 63) = 25) → (¬ ((E.2.1 x3.toNatClampNeg) &&& 63) = 26) → (¬ ((E.2.1 x3.toNatClampNeg) &&& 63) = 27) → (¬ ((E.2.1 x3.toNatClampNeg) &&& 63) = 28) → (¬ ((E.2.1 x3.toNatClampNeg) &&& 63) = 29) → (((E.2.1 x3.toNatClampNeg) &&& 63) = 30) → (¬ (x3 + 1) < 0 ∧ (x3 + 1).toNatClampNeg < E.1)) (b52 : (¬ ((Int32.ofNat E.1) - 6) < x3) → (¬ ((E.2.1 x3.toNatClampNeg) &&& 63) = 0) → (¬ ((E.2.1 x3.toNatClampNeg) &&& 63) = 1) → (¬ ((E.2.1 x3.toNatClampNeg) &&& 63) = 2) → (¬ ((E.2.1 x3.toNatClampNeg) &&& 63) = 3) → (¬ ((E.2.1 x3.toNatClampNeg) &&& 63) = 4) → (¬ ((E.2.1 x3.toNatClampNeg) &&& 63) = 5) → (¬ ((E.2.1 x3.toNatClampNeg) &&& 63) = 6) → (¬ ((E.2.1 x3.toNatClampNeg) &&& 63) = 7) → (¬ ((E.2.1 x3.toNatClampNeg) &&& 63) = 8) → (¬ ((E.2.1 x3.toNatClampNeg) &&& 63) = 9) → (¬ ((E.2.1 x3.toNatClampNeg) &&& 63) = 10) → (¬ ((E.2.1 x3.toNatClampNeg) &&& 63) = 11) → (¬ ((E.2.1 x3.toNatClampNeg) &&& 63) = 12) → (¬ ((E.2.1 x3.toNatClampNeg) &&& 63) = 13) → (¬ ((E.2.1 x3.toNatClampNeg) &&& 63) = 14) → (¬ ((E.2.1 x3.toNatClampNeg) &&& 63) = 15) → (¬ ((E.2.1 x3.toNatClampNeg) &&& 63) = 16) → (¬ ((E.2.1 x3.toNatClampNeg) &&& 63) = 17) → (¬ ((E.2.1 x3.toNatClampNeg) &&& 63) = 18) → (¬ ((E.2.1 x3.toNatClampNeg) &&& 63) = 19) → (¬ ((E.2.1 x3.toNatClampNeg) &&& 63) = 20) → (¬ ((E.2.1 x3.toNatClampNeg) &&& 63) = 21) → (¬ ((E.2.1 x3.toNatClampNeg) &&& 63) = 22) → (¬ ((E.2.1 x3.toNatClampNeg) &&& 63) = 23) → (¬ ((E.2.1 x3.toNatClampNeg) &&& 63) = 24) → (¬ ((E.2.1 x3.toNatClampNeg) &&& 63) = 25) → (¬ ((E.2.1 x3.toNatClampNeg) &&& 63) = 26) → (¬ ((E.2.1 x3.toNatClampNeg) &&& 63) = 27) → (¬ ((E.2.1 x3.toNatClampNeg) &&& 63) = 28) → (¬ ((E.2.1 x3.toNatClampNeg) &&& 63) = 29) → (((E.2.1 x3.toNatClampNeg) &&& 63) = 30) → (¬ (x3 + 2) < 0 ∧ (x3 + 2).toNatClampNeg < E.1)) (b53 : (¬ ((Int32.ofNat E.1) - 6) < x3) → (¬ ((E.2.1 x3.toNatClampNeg) &&& 63) = 0) → (¬ ((E.2.1 x3.toNatClampNeg) &&& 63) = 1) → (¬ ((E.2.1 x3.toNatClampNeg) &&& 63) = 2) → (¬ ((E.2.1 x3.toNatClampNeg) &&& 63) = 3) → (¬ ((E.2.1 x3.toNatClampNeg) &&& 63) = 4) → (¬ ((E.2.1 x3.toNatClampNeg) &&& 63) = 5) → (¬ ((E.2.1 x3.toNatClampNeg) &&& 63) = 6) → (¬ ((E.2.1 x3.toNatClampNeg) &&& 63) = 7) → (¬ ((E.2.1 x3.toNatClampNeg) &&& 63) = 8) → (¬ ((E.2.1 x3.toNatClampNeg) &&& 63) = 9) → (¬ ((E.2.1 x3.toNatClampNeg) &&& 63) = 10) → (¬ ((E.2.1 x3.toNatClampNeg) &&& 63) = 11) → (¬ ((E.2.1 x3.toNatClampNeg) &&& 63) = 12) → (¬ ((E.2.1 x3.toNatClampNeg) &&& 63) = 13) → (¬ ((E.2.1 x3.toNatClampNeg) &&& 63) = 14) → (¬ ((E.2.1 x3.toNatClampNeg) &&& 63) = 15) → (¬ ((E.2.1 x3.toNatClampNeg) &&& 63) = 16) → (¬ ((E.2.1 x3.toNatClampNeg) &&& 63) = 17) → (¬ ((E.2.1 x3.toNatClampNeg) &&& 63) = 18) → (¬ ((E.2.1 x3.toNatClampNeg) &&& 63) = 19) → (¬ ((E.2.1 x3.toNatClampNeg) &&& 63) = 20) → (¬ ((E.2.1 x3.toNatClampNeg) &&& 63) = 21) → (¬ ((E.2.1 x3.toNatClampNeg) &&& 63) = 22) → (¬ ((E.2.1 x3.toNatClampNeg) &&& 63) = 23) → (¬ ((E.2.1 x3.toNatClampNeg) &&& 63) = 24) → (¬ ((E.2.1 x3.toNatClampNeg) &&& 63) = 25) → (¬ ((E.2.1 x3.toNatClampNeg) &&& 63) = 26) → (¬ ((E.2.1 x3.toNatClampNeg) &&& 63) = 27) → (¬ ((E.2.1 x3.toNatClampNeg) &&& 63) = 28) → (¬ ((E.2.1 x3.toNatClampNeg) &&& 63) = 29) → (((E.2.1 x3.toNatClampNeg) &&& 63) = 30) → (¬ (x3 + 3) < 0 ∧ (x3 + 3).toNatClampNeg < E.1)) (b54 : (¬ ((Int32.ofNat E.1) - 6) < x3) → (¬ ((E.2.1 x3.toNatClampNeg) &&& 63) = 0) → (¬ ((E.2.1 x3.toNatClampNeg) &&& 63) = 1) → (¬ ((E.2.1 x3.toNatClampNeg) &&& 63) = 2) → (¬ ((E.2.1 x3.toNatClampNeg) &&& 63) = 3) → (¬ ((E.2.1 x3.toNatClampNeg) &&& 63) = 4) → (¬ ((E.2.1 x3.toNatClampNeg) &&& 63) = 5) → (¬ ((E.2.1 x3.toNatClampNeg) &&& 63) = 6) → (¬ ((E.2.1 x3.toNatClampNeg) &&& 63) = 7) → (¬ ((E.2.1 x3.toNatClampNeg) &&& 63) = 8) → (¬ ((E.2.1 x3.toNatClampNeg) &&& 63) = 9) → (¬ ((E.2.1 x3.toNatClampNeg) &&& 63) = 10) → (¬ ((E.2.1 x3.toNatClampNeg) &&& 63) = 11) → (¬ ((E.2.1 x3.toNatClampNeg) &&& 63) = 12) → (¬ ((E.2.1 x3.toNatClampNeg) &&& 63) = 13) → (¬ ((E.2.1 x3.toNatClampNeg) &&& 63) = 14) → (¬ ((E.2.1 x3.toNatClampNeg) &&& 63) = 15) → (¬ ((E.2.1 x3.toNatClampNeg) &&& 63) = 16) → (¬ ((E.2.1 x3.toNatClampNeg) &&& 63) = 17) → (¬ ((E.2.1 x3.toNatClampNeg) &&& 63) = 18) → (¬ ((E.2.1 x3.toNatClampNeg) &&& 63) = 19) → (¬ ((E.2.1 x3.toNatClampNeg) &&& 63) = 20) → (¬ ((E.2.1 x3.toNatClampNeg) &&& 63) = 21) → (¬ ((E.2.1 x3.toNatClampNeg) &&& 63) = 22) → (¬ ((E.2.1 x3.toNatClampNeg) &&& 63) = 23) → (¬ ((E.2.1 x3.toNatClampNeg) &&& 63) = 24) → (¬ ((E.2.1 x3.toNatClampNeg) &&& 63) = 25) → (¬ ((E.2.1 x3.toNatClampNeg) &&& 63) = 26) → (¬ ((E.2.1 x3.toNatClampNeg) &&& 63) = 27) → (¬ ((E.2.1 x3.toNatClampNeg) &&& 63) = 28) → (¬ ((E.2.1 x3.toNatClampNeg) &&& 63) = 29) → (¬ ((E.2.1 x3.toNatClampNeg) &&& 63) = 30) → (((E.2.1 x3.toNatClampNeg) &&& 63) = 31) → (¬ (x3 + 1) < 0 ∧ (x3 + 1).toNatClampNeg < E.1)) (b55 : (¬ ((Int32.ofNat E.1) - 6) < x3) → (¬ ((E.2.1 x3.toNatClampNeg) &&& 63) = 0) → (¬ ((E.2.1 x3.toNatClampNeg) &&& 63) = 1) → (¬ ((E.2.1 x3.toNatClampNeg) &&& 63) = 2) → (¬ ((E.2.1 x3.toNatClampNeg) &&& 63) = 3) → (¬ ((E.2.1 x3.toNatClampNeg) &&& 63) = 4) → (¬ ((E.2.1 x3.toNatClampNeg) &&& 63) = 5) → (¬ ((E.2.1 x3.toNatClampNeg) &&& 63) = 6) → (¬ ((E.2.1 x3.toNatClampNeg) &&& 63) = 7) → (¬ ((E.2.1 x3.toNatClampNeg) &&& 63) = 8) → (¬ ((E.2.1 x3.toNatClampNeg) &&& 63) = 9) → (¬ ((E.2.1 x3.toNatClampNeg) &&& 63) = 10) → (¬ ((E.2.1 x3.toNatClampNeg) &&& 63) = 11) → (¬ ((E.2.1 x3.toNatClampNeg) &&& 63) = 12) → (¬ ((E.2.1 x3.toNatClampNeg) &&& 63) = 13) → (¬ ((E.2.1 x3.toNatClampNeg) &&& 63) = 14) → (¬ ((E.2.1 x3.toNatClampNeg) &&& 63) = 15) → (¬ ((E.2.1 x3.toNatClampNeg) &&& 63) = 16) → (¬ ((E.2.1 x3.toNatClampNeg) &&& 63) = 17) → (¬ ((E.2.1 x3.toNatClampNeg) &&& 63) = 18) → (¬ ((E.2.1 x3.toNatClampNeg) &&& 63) = 19) → (¬ ((E.2.1 x3.toNatClampNeg) &&& 63) = 20) → (¬ ((E.2.1 x3.toNatClampNeg) &&& 63) = 21) → (¬ ((E.2.1 x3.toNatClampNeg) &&& 63) = 22) → (¬ ((E.2.1 x3.toNatClampNeg) &&& 63) = 23) → (¬ ((E.2.1 x3.toNatClampNeg) &&& 63) = 24) → (¬ ((E.2.1 x3.toNatClampNeg) &&& 63) = 25) → (¬ ((E.2.1 x3.toNatClampNeg) &&& 63) = 26) → (¬ ((E.2.1 x3.toNatClampNeg) &&& 63) = 27) → (¬ ((E.2.1 x3.toNatClampNeg) &&& 63) = 28) → (¬ ((E.2.1 x3.toNatClampNeg) &&& 63) = 29) → (¬ ((E.2.1 x3.toNatClampNeg) &&& 63) = 30) → (((E.2.1 x3.toNatClampNeg) &&& 63) = 31) → (¬ (x3 + 2) < 0 ∧ (x3 + 2).toNatClampNeg < E.1)) (b56 : (¬ ((Int32.ofNat E.1) - 6) < x3) → (¬ ((E.2.1 x3.toNatClampNeg) &&& 63) = 0) → (¬ ((E.2.1 x3.toNatClampNeg) &&& 63) = 1) → (¬ ((E.2.1 x3.toNatClampNeg) &&& 63) = 2) → (¬ ((E.2.1 x3.toNatClampNeg) &&& 63) = 3) → (¬ ((E.2.1 x3.toNatClampNeg) &&& 63) = 4) → (¬ ((E.2.1 x3.toNatClampNeg) &&& 63) = 5) → (¬ ((E.2.1 x3.toNatClampNeg) &&& 63) = 6) → (¬ ((E.2.1 x3.toNatClampNeg) &&& 63) = 7) → (¬ ((E.2.1 x3.toNatClampNeg) &&& 63) = 8) → (¬ ((E.2.1 x3.toNatClampNeg) &&& 63) = 9) → (¬ ((E.2.1 x3.toNatClampNeg) &&& 63) = 10) → (¬ ((E.2.1 x3.toNatClampNeg) &&& 63) = 11) → (¬ ((E.2.1 x3.toNatClampNeg) &&& 63) = 12) → (¬ ((E.2.1 x3.toNatClampNeg) &&& 63) = 13) → (¬ ((E.2.1 x3.toNatClampNeg) &&& 63) = 14) → (¬ ((E.2.1 x3.toNatClampNeg) &&& 63) = 15) → (¬ ((E.2.1 x3.toNatClampNeg) &&& 63) = 16) → (¬ ((E.2.1 x3.toNatClampNeg) &&& 63) = 17) → (¬ ((E.2.1 x3.toNatClampNeg) &&& 63) = 18) → (¬ ((E.2.1 x3.toNatClampNeg) &&& 63) = 19) → (¬ ((E.2.1 x3.toNatClampNeg) &&& 63) = 20) → (¬ ((E.2.1 x3.toNatClampNeg) &&& 63) = 21) → (¬ ((E.2.1 x3.toNatClampNeg) &&& 63) = 22) → (¬ ((E.2.1 x3.toNatClampNeg) &&& 63) = 23) → (¬ ((E.2.1 x3.toNatClampNeg) &&& 63) = 24) → (¬ ((E.2.1 x3.toNatClampNeg) &&& 63) = 25) → (¬ ((E.2.1 x3.toNatClampNeg) &&& 63) = 26) → (¬ ((E.2.1 x3.toNatClampNeg) &&& 63) = 27) → (¬ ((E.2.1 x3.toNatClampNeg) &&& 63) = 28) → (¬ ((E.2.1 x3.toNatClampNeg) &&& 63) = 29) → (¬ ((E.2.1 x3.toNatClampNeg) &&& 63) = 30) → (((E.2.1 x3.toNatClampNeg) &&& 63) = 31) → (¬ (x3 + 3) < 0 ∧ (x3 + 3).toNatClampNeg < E.1)) (b57 : (¬ ((Int32.ofNat E.1) - 6) < x3) → (¬ ((E.2.1 x3.toNatClampNeg) &&& 63) = 0) → (¬ ((E.2.1 x3.toNatClampNeg) &&& 63) = 1) → (¬ ((E.2.1 x3.toNatClampNeg) &&& 63) = 2) → (¬ ((E.2.1 x3.toNatClampNeg) &&& 63) = 3) → (¬ ((E.2.1 x3.toNatClampNeg) &&& 63) = 4) → (¬ ((E.2.1 x3.toNatClampNeg) &&& 63) = 5) → (¬ ((E.2.1 x3.toNatClampNeg) &&& 63) = 6) → (¬ ((E.2.1 x3.toNatClampNeg) &&& 63) = 7) → (¬ ((E.2.1 x3.toNatClampNeg) &&& 63) = 8) → (¬ ((E.2.1 x3.toNatClampNeg) &&& 63) = 9) → (¬ ((E.2.1 x3.toNatClampNeg) &&& 63) = 10) → (¬ ((E.2.1 x3.toNatClampNeg) &&& 63) = 11) → (¬ ((E.2.1 x3.toNatClampNeg) &&& 63) = 12) → (¬ ((E.2.1 x3.toNatClampNeg) &&& 63) = 13) → (¬ ((E.2.1 x3.toNatClampNeg) &&& 63) = 14) → (¬ ((E.2.1 x3.toNatClampNeg) &&& 63) = 15) → (¬ ((E.2.1 x3.toNatClampNeg) &&& 63) = 16) → (¬ ((E.2.1 x3.toNatClampNeg) &&& 63) = 17) → (¬ ((E.2.1 x3.toNatClampNeg) &&& 63) = 18) → (¬ ((E.2.1 x3.toNatClampNeg) &&& 63) = 19) → (¬ ((E.2.1 x3.toNatClampNeg) &&& 63) = 20) → (¬ ((E.2.1 x3.toNatClampNeg) &&& 63) = 21) → (¬ ((E.2.1 x3.toNatClampNeg) &&& 63) = 22) → (¬ ((E.2.1 x3.toNatClampNeg) &&& 63) = 23) → (¬ ((E.2.1 x3.toNatClampNeg) &&& 63) = 24) → (¬ ((E.2.1 x3.toNatClampNeg) &&& 63) = 25) → (¬ ((E.2.1 x3.toNatClampNeg) &&& 63) = 26) → (¬ ((E.2.1 x3.toNatClampNeg) &&& 63) = 27) → (¬ ((E.2.1 x3.toNatClampNeg) &&& 63) = 28) → (¬ ((E.2.1 x3.toNatClampNeg) &&& 63) = 29) → (¬ ((E.2.1 x3.toNatClampNeg) &&& 63) = 30) → (((E.2.1 x3.toNatClampNeg) &&& 63) = 31) → (¬ (x3 + 4) < 0 ∧ (x3 + 4).toNatClampNeg < E.1)) (b58 : (¬ ((Int32.ofNat E.1) - 6) < x3) → (¬ ((E.2.1 x3.toNatClampNeg) &&& 63) = 0) → (¬ ((E.2.1 x3.toNatClampNeg) &&& 63) = 1) → (¬ ((E.2.1 x3.toNatClampNeg) &&& 63) = 2) → (¬ ((E.2.1 x3.toNatClampNeg) &&& 63) = 3) → (¬ ((E.2.1 x3.toNatClampNeg) &&& 63) = 4) → (¬ ((E.2.1 x3.toNatClampNeg) &&& 63) = 5) → (¬ ((E.2.1 x3.toNatClampNeg) &&& 63) = 6) → (¬ ((E.2.1 x3.toNatClampNeg) &&& 63) = 7) → (¬ ((E.2.1 x3.toNatClampNeg) &&& 63) = 8) → (¬ ((E.2.1 x3.toNatClampNeg) &&& 63) = 9) → (¬ ((E.2.1 x3.toNatClampNeg) &&& 63) = 10) → (¬ ((E.2.1 x3.toNatClampNeg) &&& 63) = 11) → (¬ ((E.2.1 x3.toNatClampNeg) &&& 63) = 12) → (¬ ((E.2.1 x3.toNatClampNeg) &&& 63) = 13) → (¬ ((E.2.1 x3.toNatClampNeg) &&& 63) = 14) → (¬ ((E.2.1 x3.toNatClampNeg) &&& 63) = 15) → (¬ ((E.2.1 x3.toNatClampNeg) &&& 63) = 16) → (¬ ((E.2.1 x3.toNatClampNeg) &&& 63) = 17) → (¬ ((E.2.1 x3.toNatClampNeg) &&& 63) = 18) → (¬ ((E.2.1 x3.toNatClampNeg) &&& 63) = 19) → (¬ ((E.2.1 x3.toNatClampNeg) &&& 63) = 20) → (¬ ((E.2.1 x3.toNatClampNeg) &&& 63) = 21) → (¬ ((E.2.1 x3.toNatClampNeg) &&& 63) = 22) → (¬ ((E.2.1 x3.toNatClampNeg) &&& 63) = 23) → (¬ ((E.2.1 x3.toNatClampNeg) &&& 63) = 24) → (¬ ((E.2.1 x3.toNatClampNeg) &&& 63) = 25) → (¬ ((E.2.1 x3.toNatClampNeg) &&& 63) = 26) → (¬ ((E.2.1 x3.toNatClampNeg) &&& 63) = 27) → (¬ ((E.2.1 x3.toNatClampNeg) &&& 63) = 28) → (¬ ((E.2.1 x3.toNatClampNeg) &&& 63) = 29) → (¬ ((E.2.1 x3.toNatClampNeg) &&& 63) = 30) → (((E.2.1 x3.toNatClampNeg) &&& 63) = 31) → (¬ (x3 + 5) < 0 ∧ (x3 + 5).toNatClampNeg < E.1)) (b59 : (¬ ((Int32.ofNat E.1) - 6) < x3) → (¬ ((E.2.1 x3.toNatClampNeg) &&& 63) = 0) → (¬ ((E.2.1 x3.toNatClampNeg) &&& 63) = 1) → (¬ ((E.2.1 x3.toNatClampNeg) &&& 63) = 2) → (¬ ((E.2.1 x3.toNatClampNeg) &&& 63) = 3) → (¬ ((E.2.1 x3.toNatClampNeg) &&& 63) = 4) → (¬ ((E.2.1 x3.toNatClampNeg) &&& 63) = 5) → (¬ ((E.2.1 x3.toNatClampNeg) &&& 63) = 6) → (¬ ((E.2.1 x3.toNatClampNeg) &&& 63) = 7) → (¬ ((E.2.1 x3.toNatClampNeg) &&& 63) = 8) → (¬ ((E.2.1 x3.toNatClampNeg) &&& 63) = 9) → (¬ ((E.2.1 x3.toNatClampNeg) &&& 63) = 10) → (¬ ((E.2.1 x3.toNatClampNeg) &&& 63) = 11) → (¬ ((E.2.1 x3.toNatClampNeg) &&& 63) = 12) → (¬ ((E.2.1 x3.toNatClampNeg) &&& 63) = 13) → (¬ ((E.2.1 x3.toNatClampNeg) &&& 63) = 14) → (¬ ((E.2.1 x3.toNatClampNeg) &&& 63) = 15) → (¬ ((E.2.1 x3.toNatClampNeg) &&& 63) = 16) → (¬ ((E.2.1 x3.toNatClampNeg) &&& 63) = 17) → (¬ ((E.2.1 x3.toNatClampNeg) &&& 63) = 18) → (¬ ((E.2.1 x3.toNatClampNeg) &&& 63) = 19) → (¬ ((E.2.1 x3.toNatClampNeg) &&& 63) = 20) → (¬ ((E.2.1 x3.toNatClampNeg) &&& 63) = 21) → (¬ ((E.2.1 x3.toNatClampNeg) &&& 63) = 22) → (¬ ((E.2.1 x3.toNatClampNeg) &&& 63) = 23) → (¬ ((E.2.1 x3.toNatClampNeg) &&& 63) = 24) → (¬ ((E.2.1 x3.toNatClampNeg) &&& 63) = 25) → (¬ ((E.2.1 x3.toNatClampNeg) &&& 63) = 26) → (¬ ((E.2.1 x3.toNatClampNeg) &&& 63) = 27) → (¬ ((E.2.1 x3.toNatClampNeg) &&& 63) = 28) → (¬ ((E.2.1 x3.toNatClampNeg) &&& 63) = 29) → (¬ ((E.2.1 x3.toNatClampNeg) &&& 63) = 30) → (¬ ((E.2.1 x3.toNatClampNeg) &&& 63) = 31) → (((E.2.1 x3.toNatClampNeg) &&& 63) = 32) → (¬ (x3 + 1) < 0 ∧ (x3 + 1).toNatClampNeg < E.1)) (b60 : (¬ ((Int32.ofNat E.1) - 6) < x3) → (¬ ((E.2.1 x3.toNatClampNeg) &&& 63) = 0) → (¬ ((E.2.1 x3.toNatClampNeg) &&& 63) = 1) → (¬ ((E.2.1 x3.toNatClampNeg) &&& 63) = 2) → (¬ ((E.2.1 x3.toNatClampNeg) &&& 63) = 3) → (¬ ((E.2.1 x3.toNatClampNeg) &&& 63) = 4) → (¬ ((E.2.1 x3.toNatClampNeg) &&& 63) = 5) → (¬ ((E.2.1 x3.toNatClampNeg) &&& 63) = 6) → (¬ ((E.2.1 x3.toNatClampNeg) &&& 63) = 7) → (¬ ((E.2.1 x3.toNatClampNeg) &&& 63) = 8) → (¬ ((E.2.1 x3.toNatClampNeg) &&& 63) = 9) → (¬ ((E.2.1 x3.toNatClampNeg) &&& 63) = 10) → (¬ ((E.2.1 x3.toNatClampNeg) &&& 63) = 11) → (¬ ((E.2.1 x3.toNatClampNeg) &&& 63) = 12) → (¬ ((E.2.1 x3.toNatClampNeg) &&& 63) = 13) → (¬ ((E.2.1 x3.toNatClampNeg) &&& 63) = 14) → (¬ ((E.2.1 x3.toNatClampNeg) &&& 63) = 15) → (¬ ((E.2.1 x3.toNatClampNeg) &&& 63) = 16) → (¬ ((E.2.1 x3.toNatClampNeg) &&& 63) = 17) → (¬ ((E.2.1 x3.toNatClampNeg) &&& 63) = 18) → (¬ ((E.2.1 x3.toNatClampNeg) &&& 63) = 19) → (¬ ((E.2.1 x3.toNatClampNeg) &&& 63) = 20) → (¬ ((E.2.1 x3.toNatClampNeg) &&& 63) = 21) → (¬ ((E.2.1 x3.toNatClampNeg) &&& 63) = 22) → (¬ ((E.2.1 x3.toNatClampNeg) &&& 63) = 23) → (¬ ((E.2.1 x3.toNatClampNeg) &&& 63) = 24) → (¬ ((E.2.1 x3.toNatClampNeg) &&& 63) = 25) → (¬ ((E.2.1 x3.toNatClampNeg) &&& 63) = 26) → (¬ ((E.2.1 x3.toNatClampNeg) &&& 63) = 27) → (¬ ((E.2.1 x3.toNatClampNeg) &&& 63) = 28) → (¬ ((E.2.1 x3.toNatClampNeg) &&& 63) = 29) → (¬ ((E.2.1 x3.toNatClampNeg) &&& 63) = 30) → (¬ ((E.2.1 x3.toNatClampNeg) &&& 63) = 31) → (¬ ((E.2.1 x3.toNatClampNeg) &&& 63) = 32) → (((E.2.1 x3.toNatClampNeg) &&& 63) = 33) → (¬ (x3 + 1) < 0 ∧ (x3 + 1).toNatClampNeg < E.1)) (b61 : (¬ ((Int32.ofNat E.1) - 6) < x3) → (¬ ((E.2.1 x3.toNatClampNeg) &&& 63) = 0) → (¬ ((E.2.1 x3.toNatClampNeg) &&& 63) = 1) → (¬ ((E.2.1 x3.toNatClampNeg) &&& 63) = 2) → (¬ ((E.2.1 x3.toNatClampNeg) &&& 63) = 3) → (¬ ((E.2.1 x3.toNatClampNeg) &&& 63) = 4) → (¬ ((E.2.1 x3.toNatClampNeg) &&& 63) = 5) → (¬ ((E.2.1 x3.toNatClampNeg) &&& 63) = 6) → (¬ ((E.2.1 x3.toNatClampNeg) &&& 63) = 7) → (¬ ((E.2.1 x3.toNatClampNeg) &&& 63) = 8) → (¬ ((E.2.1 x3.toNatClampNeg) &&& 63) = 9) → (¬ ((E.2.1 x3.toNatClampNeg) &&& 63) = 10) → (¬ ((E.2.1 x3.toNatClampNeg) &&& 63) = 11) → (¬ ((E.2.1 x3.toNatClampNeg) &&& 63) = 12) → (¬ ((E.2.1 x3.toNatClampNeg) &&& 63) = 13) → (¬ ((E.2.1 x3.toNatClampNeg) &&& 63) = 14) → (¬ ((E.2.1 x3.toNatClampNeg) &&& 63) = 15) → (¬ ((E.2.1 x3.toNatClampNeg) &&& 63) = 16) → (¬ ((E.2.1 x3.toNatClampNeg) &&& 63) = 17) → (¬ ((E.2.1 x3.toNatClampNeg) &&& 63) = 18) → (¬ ((E.2.1 x3.toNatClampNeg) &&& 63) = 19) → (¬ ((E.2.1 x3.toNatClampNeg) &&& 63) = 20) → (¬ ((E.2.1 x3.toNatClampNeg) &&& 63) = 21) → (¬ ((E.2.1 x3.toNatClampNeg) &&& 63) = 22) → (¬ ((E.2.1 x3.toNatClampNeg) &&& 63) = 23) → (¬ ((E.2.1 x3.toNatClampNeg) &&& 63) = 24) → (¬ ((E.2.1 x3.toNatClampNeg) &&& 63) = 25) → (¬ ((E.2.1 x3.toNatClampNeg) &&& 63) = 26) → (¬ ((E.2.1 x3.toNatClampNeg) &&& 63) = 27) → (¬ ((E.2.1 x3.toNatClampNeg) &&& 63) = 28) → (¬ ((E.2.1 x3.toNatClampNeg) &&& 63) = 29) → (¬ ((E.2.1 x3.toNatClampNeg) &&& 63) = 30) → (¬ ((E.2.1 x3.toNatClampNeg) &&& 63) = 31) → (¬ ((E.2.1 x3.toNatClampNeg) &&& 63) = 32) → (¬ ((E.2.1 x3.toNatClampNeg) &&& 63) = 33) → (¬ ((E.2.1 x3.toNatClampNeg) &&& 63) = 34) → (¬ ((E.2.1 x3.toNatClampNeg) &&& 63) = 35) → (((E.2.1 x3.toNatClampNeg) &&& 63) = 36) → (¬ (x3 + 1) < 0 ∧ (x3 + 1).toNatClampNeg < E.1)) (b62 : (¬ ((Int32.ofNat E.1) - 6) < x3) → (¬ ((E.2.1 x3.toNatClampNeg) &&& 63) = 0) → (¬ ((E.2.1 x3.toNatClampNeg) &&& 63) = 1) → (¬ ((E.2.1 x3.toNatClampNeg) &&& 63) = 2) → (¬ ((E.2.1 x3.toNatClampNeg) &&& 63) = 3) → (¬ ((E.2.1 x3.toNatClampNeg) &&& 63) = 4) → (¬ ((E.2.1 x3.toNatClampNeg) &&& 63) = 5) → (¬ ((E.2.1 x3.toNatClampNeg) &&& 63) = 6) → (¬ ((E.2.1 x3.toNatClampNeg) &&& 63) = 7) → (¬ ((E.2.1 x3.toNatClampNeg) &&& 63) = 8) → (¬ ((E.2.1 x3.toNatClampNeg) &&& 63) = 9) → (¬ ((E.2.1 x3.toNatClampNeg) &&& 63) = 10) → (¬ ((E.2.1 x3.toNatClampNeg) &&& 63) = 11) → (¬ ((E.2.1 x3.toNatClampNeg) &&& 63) = 12) → (¬ ((E.2.1 x3.toNatClampNeg) &&& 63) = 13) → (¬ ((E.2.1 x3.toNatClampNeg) &&& 63) = 14) → (¬ ((E.2.1 x3.toNatClampNeg) &&& 63) = 15) → (¬ ((E.2.1 x3.toNatClampNeg) &&& 63) = 16) → (¬ ((E.2.1 x3.toNatClampNeg) &&& 63) = 17) → (¬ ((E.2.1 x3.toNatClampNeg) &&& 63) = 18) → (¬ ((E.2.1 x3.toNatClampNeg) &&& 63) = 19) → (¬ ((E.2.1 x3.toNatClampNeg) &&& 63) = 20) → (¬ ((E.2.1 x3.toNatClampNeg) &&& 63) = 21) → (¬ ((E.2.1 x3.toNatClampNeg) &&& 63) = 22) → (¬ ((E.2.1 x3.toNatClampNeg) &&& 63) = 23) → (¬ ((E.2.1 x3.toNatClampNeg) &&& 63) = 24) → (¬ ((E.2.1 x3.toNatClampNeg) &&& 63) = 25) → (¬ ((E.2.1 x3.toNatClampNeg) &&& 63) = 26) → (¬ ((E.2.1 x3.toNatClampNeg) &&& 63) = 27) → (¬ ((E.2.1 x3.toNatClampNeg) &&& 63) = 28) → (¬ ((E.2.1 x3.toNatClampNeg) &&& 63) = 29) → (¬ ((E.2.1 x3.toNatClampNeg) &&& 63) = 30) → (¬ ((E.2.1 x3.toNatClampNeg) &&& 63) = 31) → (¬ ((E.2.1 x3.toNatClampNeg) &&& 63) = 32) → (¬ ((E.2.1 x3.toNatClampNeg) &&& 63) = 33) → (¬ ((E.2.1 x3.toNatClampNeg) &&& 63) = 34) → (¬ ((E.2.1 x3.toNatClampNeg) &&& 63) = 35) → (¬ ((E.2.1 x3.toNatClampNeg) &&& 63) = 36) → (¬ ((E.2.1 x3.toNatClampNeg) &&& 63) = 37) → (((E.2.1 x3.toNatClampNeg) &&& 63) = 38) → (¬ (x3 + 1) < 0 ∧ (x3 + 1).toNatClampNeg < E.1)) (b63 : (¬ ((Int32.ofNat E.1) - 6) < x3) → (¬ ((E.2.1 x3.toNatClampNeg) &&& 63) = 0) → (¬ ((E.2.1 x3.toNatClampNeg) &&& 63) = 1) → (¬ ((E.2.1 x3.toNatClampNeg) &&& 63) = 2) → (¬ ((E.2.1 x3.toNatClampNeg) &&& 63) = 3) → (¬ ((E.2.1 x3.toNatClampNeg) &&& 63) = 4) → (¬ ((E.2.1 x3.toNatClampNeg) &&& 63) = 5) → (¬ ((E.2.1 x3.toNatClampNeg) &&& 63) = 6) → (¬ ((E.2.1 x3.toNatClampNeg) &&& 63) = 7) → (¬ ((E.2.1 x3.toNatClampNeg) &&& 63) = 8) → (¬ ((E.2.1 x3.toNatClampNeg) &&& 63) = 9) → (¬ ((E.2.1 x3.toNatClampNeg) &&& 63) = 10) → (¬ ((E.2.1 x3.toNatClampNeg) &&& 63) = 11) → (¬ ((E.2.1 x3.toNatClampNeg) &&& 63) = 12) → (¬ ((E.2.1 x3.toNatClampNeg) &&& 63) = 13) → (¬ ((E.2.1 x3.toNatClampNeg) &&& 63) = 14) → (¬ ((E.2.1 x3.toNatClampNeg) &&& 63) = 15) → (¬ ((E.2.1 x3.toNatClampNeg) &&& 63) = 16) → (¬ ((E.2.1 x3.toNatClampNeg) &&& 63) = 17) → (¬ ((E.2.1 x3.toNatClampNeg) &&& 63) = 18) → (¬ ((E.2.1 x3.toNatClampNeg) &&& 63) = 19) → (¬ ((E.2.1 x3.toNatClampNeg) &&& 63) = 20) → (¬ ((E.2.1 x3.toNatClampNeg) &&& 63) = 21) → (¬ ((E.2.1 x3.toNatClampNeg) &&& 63) = 22) → (¬ ((E.2.1 x3.toNatClampNeg) &&& 63) = 23) → (¬ ((E.2.1 x3.toNatClampNeg) &&& 63) = 24) → (¬ ((E.2.1 x3.toNatClampNeg) &&& 63) = 25) → (¬ ((E.2.1 x3.toNatClampNeg) &&& 63) = 26) → (¬ ((E.2.1 x3.toNatClampNeg) &&& 63) = 27) → (¬ ((E.2.1 x3.toNatClampNeg) &&& 63) = 28) → (¬ ((E.2.1 x3.toNatClampNeg) &&& 63) = 29) → (¬ ((E.2.1 x3.toNatClampNeg) &&& 63) = 30) → (¬ ((E.2.1 x3.toNatClampNeg) &&& 63) = 31) → (¬ ((E.2.1 x3.toNatClampNeg) &&& 63) = 32) → (¬ ((E.2.1 x3.toNatClampNeg) &&& 63) = 33) → (¬ ((E.2.1 x3.toNatClampNeg) &&& 63) = 34) → (¬ ((E.2.1 x3.toNatClampNeg) &&& 63) = 35) → (¬ ((E.2.1 x3.toNatClampNeg) &&& 63) = 36) → (¬ ((E.2.1 x3.toNatClampNeg) &&& 63) = 37) → (¬ ((E.2.1 x3.toNatClampNeg) &&& 63) = 38) → (((E.2.1 x3.toNatClampNeg) &&& 63) = 39) → (¬ (x3 + 1) < 0 ∧ (x3 + 1).toNatClampNeg < E.1)) : wG d 258 (18, [.ref 9, .ref 10, .ref 101, .int x3], [], mkH E ro) Q = (if ((Int32.ofNat E.1) - 6) < x3 then Q (some (.int 1)) (mkH E ro) else (if ((E.2.1 x3.toNatClampNeg) &&& 63) = 0 then wX d 96 [.ref 10, .int (E.2.1 (x3 + 1).toNatClampNeg), .int (E.2.1 (x3 + 2).toNatClampNeg), .int (E.2.1 (x3 + 3).toNatClampNeg), .int (E.2.1 (x3 + 4).toNatClampNeg)] (mkH E ro) (fun v h' => wG d 258 (232, [.ref 9, .ref 10, .ref 101, .int x3], pv v [], h') Q) else (if ((E.2.1 x3.toNatClampNeg) &&& 63) = 1 then wX d 97 [.ref 10, .int (E.2.1 (x3 + 1).toNatClampNeg), .int (E.2.1 (x3 + 2).toNatClampNeg), .int (E.2.1 (x3 + 3).toNatClampNeg), .int (E.2.1 (x3 + 4).toNatClampNeg)] (mkH E ro) (fun v h' => wG d 258 (285, [.ref 9, .ref 10, .ref 101, .int x3], pv v [], h') Q) else (if ((E.2.1 x3.toNatClampNeg) &&& 63) = 2 then wX d 98 [.ref 10, .int (E.2.1 (x3 + 1).toNatClampNeg), .int (E.2.1 (x3 + 2).toNatClampNeg)] (mkH E ro) (fun v h' => wG d 258 (328, [.ref 9, .ref 10, .ref 101, .int x3], pv v [], h') Q) else (if ((E.2.1 x3.toNatClampNeg) &&& 63) = 3 then wX d 99 [.ref 10, .int (E.2.1 (x3 + 1).toNatClampNeg), .int (E.2.1 (x3 + 2).toNatClampNeg)] (mkH E ro) (fun v h' => wG d 258 (361, [.ref 9, .ref 10, .ref 101, .int x3], pv v [], h') Q) else (if ((E.2.1 x3.toNatClampNeg) &&& 63) = 4 then wX d 100 [.ref 10, .int (E.2.1 (x3 + 1).toNatClampNeg), .int (E.2.1 (x3 + 2).toNatClampNeg)] (mkH E ro) (fun v h' => wG d 258 (394, [.ref 9, .ref 10, .ref 101, .int x3], pv v [], h') Q) else (if ((E.2.1 x3.toNatClampNeg) &&& 63) = 5 then wX d 101 [.ref 10, .int (E.2.1 (x3 + 1).toNatClampNeg), .int (E.2.1 (x3 + 2).toNatClampNeg), .int (E.2.1 (x3 + 3).toNatClampNeg)] (mkH E ro) (fun v h' => wG d 258 (432, [.ref 9, .ref 10, .ref 101, .int x3], pv v [], h') Q) else (if ((E.2.1 x3.toNatClampNeg) &&& 63) = 6 then wX d 102 [.ref 10] (mkH E ro) (fun v h' => wG d 258 (460, [.ref 9, .ref 10, .ref 101, .int x3], pv v [], h') Q) else (if ((E.2.1 x3.toNatClampNeg) &&& 63) = 7 then wX d 103 [.ref 10, .int (E.2.1 (x3 + 1).toNatClampNeg)] (mkH E ro) (fun v h' => wG d 258 (478, [.ref 9, .ref 10, .ref 101, .int x3], pv v [], h') Q) else (if ((E.2.1 x3.toNatClampNeg) &&& 63) = 8 then wX d 104 [.ref 10, .int (E.2.1 (x3 + 1).toNatClampNeg), .int (E.2.1 (x3 + 2).toNatClampNeg)] (mkH E ro) (fun v h' => wG d 258 (506, [.ref 9, .ref 10, .ref 101, .int x3], pv v [], h') Q) else (if ((E.2.1 x3.toNatClampNeg) &&& 63) = 9 then wX d 105 [.ref 10, .int (E.2.1 (x3 + 1).toNatClampNeg)] (mkH E ro) (fun v h' => wG d 258 (534, [.ref 9, .ref 10, .ref 101, .int x3], pv v [], h') Q) else (if ((E.2.1 x3.toNatClampNeg) &&& 63) = 10 then wX d 106 [.ref 10, .int (E.2.1 (x3 + 1).toNatClampNeg)] (mkH E ro) (fun v h' => wG d 258 (557, [.ref 9, .ref 10, .ref 101, .int x3], pv v [], h') Q) else (if ((E.2.1 x3.toNatClampNeg) &&& 63) = 11 then wX d 107 [.ref 10, .int (E.2.1 (x3 + 1).toNatClampNeg)] (mkH E ro) (fun v h' => wG d 258 (580, [.ref 9, .ref 10, .ref 101, .int x3], pv v [], h') Q) else (if ((E.2.1 x3.toNatClampNeg) &&& 63) = 12 then wX d 108 [.ref 10] (mkH E ro) (fun v h' => wG d 258 (598, [.ref 9, .ref 10, .ref 101, .int x3], pv v [], h') Q) else (if ((E.2.1 x3.toNatClampNeg) &&& 63) = 13 then wX d 109 [.ref 10] (mkH E ro) (fun v h' => wG d 258 (611, [.ref 9, .ref 10, .ref 101, .int x3], pv v [], h') Q) else (if ((E.2.1 x3.toNatClampNeg) &&& 63) = 14 then wX d 110 [.ref 10, .long ((((E.2.1 (x3 + 1).toNatClampNeg).toInt64) <<< ((32 : Int32).toInt64 &&& 63)) ||| (((E.2.1 (x3 + 2).toNatClampNeg).toInt64) &&& 4294967295)), .int (E.2.1 (x3 + 3).toNatClampNeg)] (mkH E ro) (fun v h' => wG d 258 (649, [.ref 9, .ref 10, .ref 101, .int x3], pv v [], h') Q) else (if ((E.2.1 x3.toNatClampNeg) &&& 63) = 15 then wX d 111 [.ref 10, .int (E.2.1 (x3 + 1).toNatClampNeg)] (mkH E ro) (fun v h' => wG d 258 (692, [.ref 9, .ref 10, .ref 101, .int x3], pv v [], h') Q) else (if ((E.2.1 x3.toNatClampNeg) &&& 63) = 16 then wX d 112 [.ref 10, .int (E.2.1 (x3 + 1).toNatClampNeg), .int (E.2.1 (x3 + 2).toNatClampNeg), .int (E.2.1 (x3 + 3).toNatClampNeg), .int (E.2.1 (x3 + 4).toNatClampNeg)] (mkH E ro) (fun v h' => wG d 258 (730, [.ref 9, .ref 10, .ref 101, .int x3], pv v [], h') Q) else (if ((E.2.1 x3.toNatClampNeg) &&& 63) = 17 then wX d 113 [.ref 10, .int (E.2.1 (x3 + 1).toNatClampNeg)] (mkH E ro) (fun v h' => wG d 258 (768, [.ref 9, .ref 10, .ref 101, .int x3], pv v [], h') Q) else (if ((E.2.1 x3.toNatClampNeg) &&& 63) = 18 then wX d 114 [.ref 10, .int (E.2.1 (x3 + 1).toNatClampNeg)] (mkH E ro) (fun v h' => wG d 258 (791, [.ref 9, .ref 10, .ref 101, .int x3], pv v [], h') Q) else (if ((E.2.1 x3.toNatClampNeg) &&& 63) = 19 then wX d 115 [.ref 10, .int (E.2.1 (x3 + 1).toNatClampNeg)] (mkH E ro) (fun v h' => wG d 258 (814, [.ref 9, .ref 10, .ref 101, .int x3], pv v [], h') Q) else (if ((E.2.1 x3.toNatClampNeg) &&& 63) = 20 then wX d 116 [.ref 10, .int (E.2.1 (x3 + 1).toNatClampNeg), .int (E.2.1 (x3 + 2).toNatClampNeg), .int (E.2.1 (x3 + 3).toNatClampNeg)] (mkH E ro) (fun v h' => wG d 258 (847, [.ref 9, .ref 10, .ref 101, .int x3], pv v [], h') Q) else (if ((E.2.1 x3.toNatClampNeg) &&& 63) = 21 then wX d 117 [.ref 10, .int (E.2.1 (x3 + 1).toNatClampNeg)] (mkH E ro) (fun v h' => wG d 258 (880, [.ref 9, .ref 10, .ref 101, .int x3], pv v [], h') Q) else (if ((E.2.1 x3.toNatClampNeg) &&& 63) = 22 then wX d 118 [.ref 10] (mkH E ro) (fun v h' => wG d 258 (898, [.ref 9, .ref 10, .ref 101, .int x3], pv v [], h') Q) else (if ((E.2.1 x3.toNatClampNeg) &&& 63) = 23 then wX d 119 [.ref 10, .int (E.2.1 (x3 + 1).toNatClampNeg), .int (E.2.1 (x3 + 2).toNatClampNeg)] (mkH E ro) (fun v h' => wG d 258 (921, [.ref 9, .ref 10, .ref 101, .int x3], pv v [], h') Q) else (if ((E.2.1 x3.toNatClampNeg) &&& 63) = 24 then wX d 120 [.ref 10, .int (E.2.1 (x3 + 1).toNatClampNeg)] (mkH E ro) (fun v h' => wG d 258 (949, [.ref 9, .ref 10, .ref 101, .int x3], pv v [], h') Q) else (if ((E.2.1 x3.toNatClampNeg) &&& 63) = 25 then wX d 121 [.ref 10, .int (E.2.1 (x3 + 1).toNatClampNeg)] (mkH E ro) (fun v h' => wG d 258 (972, [.ref 9, .ref 10, .ref 101, .int x3], pv v [], h') Q) else (if ((E.2.1 x3.toNatClampNeg) &&& 63) = 26 then wX d 122 [.ref 10, .int (E.2.1 (x3 + 1).toNatClampNeg)] (mkH E ro) (fun v h' => wG d 258 (995, [.ref 9, .ref 10, .ref 101, .int x3], pv v [], h') Q) else (if ((E.2.1 x3.toNatClampNeg) &&& 63) = 27 then wX d 123 [.ref 10, .int (E.2.1 (x3 + 1).toNatClampNeg), .int (E.2.1 (x3 + 2).toNatClampNeg), .int (E.2.1 (x3 + 3).toNatClampNeg)] (mkH E ro) (fun v h' => wG d 258 (1028, [.ref 9, .ref 10, .ref 101, .int x3], pv v [], h') Q) else (if ((E.2.1 x3.toNatClampNeg) &&& 63) = 28 then wX d 124 [.ref 10, .int (E.2.1 (x3 + 1).toNatClampNeg)] (mkH E ro) (fun v h' => wG d 258 (1061, [.ref 9, .ref 10, .ref 101, .int x3], pv v [], h') Q) else (if ((E.2.1 x3.toNatClampNeg) &&& 63) = 29 then wX d 125 [.ref 10, .int (E.2.1 (x3 + 1).toNatClampNeg), .int (E.2.1 (x3 + 2).toNatClampNeg), .int (E.2.1 (x3 + 3).toNatClampNeg)] (mkH E ro) (fun v h' => wG d 258 (1094, [.ref 9, .ref 10, .ref 101, .int x3], pv v [], h') Q) else (if ((E.2.1 x3.toNatClampNeg) &&& 63) = 30 then wX d 126 [.ref 10, .int (E.2.1 (x3 + 1).toNatClampNeg), .int (E.2.1 (x3 + 2).toNatClampNeg), .int (E.2.1 (x3 + 3).toNatClampNeg)] (mkH E ro) (fun v h' => wG d 258 (1137, [.ref 9, .ref 10, .ref 101, .int x3], pv v [], h') Q) else (if ((E.2.1 x3.toNatClampNeg) &&& 63) = 31 then wX d 127 [.ref 10, .int (E.2.1 (x3 + 1).toNatClampNeg), .int (E.2.1 (x3 + 2).toNatClampNeg), .int (E.2.1 (x3 + 3).toNatClampNeg), .int (E.2.1 (x3 + 4).toNatClampNeg), .int (E.2.1 (x3 + 5).toNatClampNeg)] (mkH E ro) (fun v h' => wG d 258 (1190, [.ref 9, .ref 10, .ref 101, .int x3], pv v [], h') Q) else (if ((E.2.1 x3.toNatClampNeg) &&& 63) = 32 then wX d 128 [.ref 10, .int (E.2.1 (x3 + 1).toNatClampNeg)] (mkH E ro) (fun v h' => wG d 258 (1233, [.ref 9, .ref 10, .ref 101, .int x3], pv v [], h') Q) else (if ((E.2.1 x3.toNatClampNeg) &&& 63) = 33 then wX d 129 [.ref 10, .int (E.2.1 (x3 + 1).toNatClampNeg)] (mkH E ro) (fun v h' => wG d 258 (1256, [.ref 9, .ref 10, .ref 101, .int x3], pv v [], h') Q) else (if ((E.2.1 x3.toNatClampNeg) &&& 63) = 34 then wX d 130 [.ref 10] (mkH E ro) (fun v h' => wG d 258 (1274, [.ref 9, .ref 10, .ref 101, .int x3], pv v [], h') Q) else (if ((E.2.1 x3.toNatClampNeg) &&& 63) = 35 then wX d 131 [.ref 10] (mkH E ro) (fun v h' => wG d 258 (1287, [.ref 9, .ref 10, .ref 101, .int x3], pv v [], h') Q) else (if ((E.2.1 x3.toNatClampNeg) &&& 63) = 36 then wX d 132 [.ref 10, .int (E.2.1 (x3 + 1).toNatClampNeg)] (mkH E ro) (fun v h' => wG d 258 (1305, [.ref 9, .ref 10, .ref 101, .int x3], pv v [], h') Q) else (if ((E.2.1 x3.toNatClampNeg) &&& 63) = 37 then wX d 133 [.ref 10] (mkH E ro) (fun v h' => wG d 258 (1323, [.ref 9, .ref 10, .ref 101, .int x3], pv v [], h') Q) else (if ((E.2.1 x3.toNatClampNeg) &&& 63) = 38 then wX d 134 [.ref 10, .int (E.2.1 (x3 + 1).toNatClampNeg)] (mkH E ro) (fun v h' => wG d 258 (1341, [.ref 9, .ref 10, .ref 101, .int x3], pv v [], h') Q) else (if ((E.2.1 x3.toNatClampNeg) &&& 63) = 39 then wX d 135 [.ref 10, .int (E.2.1 (x3 + 1).toNatClampNeg)] (mkH E ro) (fun v h' => wG d 258 (1364, [.ref 9, .ref 10, .ref 101, .int x3], pv v [], h') Q) else wG d 258 (18, [.ref 9, .ref 10, .ref 101, .int (x3 + 6)], [], mkH E ro) Q))))))))))))))))))))))))))))))))))))))))) := by
  refine (r_iload_n rfl rfl rfl).trans ?_
  refine (r_aload_n rfl rfl rfl).trans ?_
  refine (r_alenX rfl rfl).trans ?_
  refine (r_bipush (v := 6) rfl rfl rfl).trans ?_
  refine (r_isub rfl rfl).trans ?_
  refine (r_icmp_gt rfl rfl rfl).trans ?_
  refine ite_congr rfl (fun h_0 => ?_) (fun h_0 => ?_)
  · refine (r_iconst (v := 1) rfl rfl rfl).trans ?_
    exact r_zret rfl rfl rfl
  · refine (r_aload_n rfl rfl rfl).trans ?_
    refine (r_iload_n rfl rfl rfl).trans ?_
    refine (r_ialdX rfl rfl (b0 h_0)).trans ?_
    refine (r_bipush (v := 63) rfl rfl rfl).trans ?_
    refine (r_iand rfl rfl).trans ?_
    refine (r_sw (i := (1345, 0, 39)) rfl rfl).trans ?_
    refine (r_swc (y := 0) rfl).trans ?_
    refine ite_congr rfl (fun h_1 => ?_) (fun h_1 => ?_)
    · refine (r_aload_n rfl rfl rfl).trans ?_
      refine (r_aload_n rfl rfl rfl).trans ?_
      refine (r_iload_n rfl rfl rfl).trans ?_
      refine (r_iconst (v := 1) rfl rfl rfl).trans ?_
      refine (r_iadd rfl rfl).trans ?_
      refine (r_ialdX rfl rfl (b1 h_0 h_1)).trans ?_
      refine (r_aload_n rfl rfl rfl).trans ?_
      refine (r_iload_n rfl rfl rfl).trans ?_
      refine (r_iconst (v := 2) rfl rfl rfl).trans ?_
      refine (r_iadd rfl rfl).trans ?_
      refine (r_ialdX rfl rfl (b2 h_0 h_1)).trans ?_
      refine (r_aload_n rfl rfl rfl).trans ?_
      refine (r_iload_n rfl rfl rfl).trans ?_
      refine (r_iconst (v := 3) rfl rfl rfl).trans ?_
      refine (r_iadd rfl rfl).trans ?_
      refine (r_ialdX rfl rfl (b3 h_0 h_1)).trans ?_
      refine (r_aload_n rfl rfl rfl).trans ?_
      refine (r_iload_n rfl rfl rfl).trans ?_
      refine (r_iconst (v := 4) rfl rfl rfl).trans ?_
      refine (r_iadd rfl rfl).trans ?_
      refine (r_ialdX rfl rfl (b4 h_0 h_1)).trans ?_
      exact r_inv (m := 96) (c := 9) rfl rfl rfl rfl rfl rfl rfl rfl
    · refine (r_swc (y := 1) rfl).trans ?_
      refine ite_congr rfl (fun h_2 => ?_) (fun h_2 => ?_)
      · refine (r_aload_n rfl rfl rfl).trans ?_
        refine (r_aload_n rfl rfl rfl).trans ?_
        refine (r_iload_n rfl rfl rfl).trans ?_
        refine (r_iconst (v := 1) rfl rfl rfl).trans ?_
        refine (r_iadd rfl rfl).trans ?_
        refine (r_ialdX rfl rfl (b5 h_0 h_1 h_2)).trans ?_
        refine (r_aload_n rfl rfl rfl).trans ?_
        refine (r_iload_n rfl rfl rfl).trans ?_
        refine (r_iconst (v := 2) rfl rfl rfl).trans ?_
        refine (r_iadd rfl rfl).trans ?_
        refine (r_ialdX rfl rfl (b6 h_0 h_1 h_2)).trans ?_
        refine (r_aload_n rfl rfl rfl).trans ?_
        refine (r_iload_n rfl rfl rfl).trans ?_
        refine (r_iconst (v := 3) rfl rfl rfl).trans ?_
        refine (r_iadd rfl rfl).trans ?_
        refine (r_ialdX rfl rfl (b7 h_0 h_1 h_2)).trans ?_
        refine (r_aload_n rfl rfl rfl).trans ?_
        refine (r_iload_n rfl rfl rfl).trans ?_
        refine (r_iconst (v := 4) rfl rfl rfl).trans ?_
        refine (r_iadd rfl rfl).trans ?_
        refine (r_ialdX rfl rfl (b8 h_0 h_1 h_2)).trans ?_
        exact r_inv (m := 97) (c := 9) rfl rfl rfl rfl rfl rfl rfl rfl
      · refine (r_swc (y := 2) rfl).trans ?_
        refine ite_congr rfl (fun h_3 => ?_) (fun h_3 => ?_)
        · refine (r_aload_n rfl rfl rfl).trans ?_
          refine (r_aload_n rfl rfl rfl).trans ?_
          refine (r_iload_n rfl rfl rfl).trans ?_
          refine (r_iconst (v := 1) rfl rfl rfl).trans ?_
          refine (r_iadd rfl rfl).trans ?_
          refine (r_ialdX rfl rfl (b9 h_0 h_1 h_2 h_3)).trans ?_
          refine (r_aload_n rfl rfl rfl).trans ?_
          refine (r_iload_n rfl rfl rfl).trans ?_
          refine (r_iconst (v := 2) rfl rfl rfl).trans ?_
          refine (r_iadd rfl rfl).trans ?_
          refine (r_ialdX rfl rfl (b10 h_0 h_1 h_2 h_3)).trans ?_
          exact r_inv (m := 98) (c := 9) rfl rfl rfl rfl rfl rfl rfl rfl
        · refine (r_swc (y := 3) rfl).trans ?_
          refine ite_congr rfl (fun h_4 => ?_) (fun h_4 => ?_)
          · refine (r_aload_n rfl rfl rfl).trans ?_
            refine (r_aload_n rfl rfl rfl).trans ?_
            refine (r_iload_n rfl rfl rfl).trans ?_
            refine (r_iconst (v := 1) rfl rfl rfl).trans ?_
            refine (r_iadd rfl rfl).trans ?_
            refine (r_ialdX rfl rfl (b11 h_0 h_1 h_2 h_3 h_4)).trans ?_
            refine (r_aload_n rfl rfl rfl).trans ?_
            refine (r_iload_n rfl rfl rfl).trans ?_
            refine (r_iconst (v := 2) rfl rfl rfl).trans ?_
            refine (r_iadd rfl rfl).trans ?_
            refine (r_ialdX rfl rfl (b12 h_0 h_1 h_2 h_3 h_4)).trans ?_
            exact r_inv (m := 99) (c := 9) rfl rfl rfl rfl rfl rfl rfl rfl
          · refine (r_swc (y := 4) rfl).trans ?_
            refine ite_congr rfl (fun h_5 => ?_) (fun h_5 => ?_)
            · refine (r_aload_n rfl rfl rfl).trans ?_
              refine (r_aload_n rfl rfl rfl).trans ?_
              refine (r_iload_n rfl rfl rfl).trans ?_
              refine (r_iconst (v := 1) rfl rfl rfl).trans ?_
              refine (r_iadd rfl rfl).trans ?_
              refine (r_ialdX rfl rfl (b13 h_0 h_1 h_2 h_3 h_4 h_5)).trans ?_
              refine (r_aload_n rfl rfl rfl).trans ?_
              refine (r_iload_n rfl rfl rfl).trans ?_
              refine (r_iconst (v := 2) rfl rfl rfl).trans ?_
              refine (r_iadd rfl rfl).trans ?_
              refine (r_ialdX rfl rfl (b14 h_0 h_1 h_2 h_3 h_4 h_5)).trans ?_
              exact r_inv (m := 100) (c := 9) rfl rfl rfl rfl rfl rfl rfl rfl
            · refine (r_swc (y := 5) rfl).trans ?_
              refine ite_congr rfl (fun h_6 => ?_) (fun h_6 => ?_)
              · refine (r_aload_n rfl rfl rfl).trans ?_
                refine (r_aload_n rfl rfl rfl).trans ?_
                refine (r_iload_n rfl rfl rfl).trans ?_
                refine (r_iconst (v := 1) rfl rfl rfl).trans ?_
                refine (r_iadd rfl rfl).trans ?_
                refine (r_ialdX rfl rfl (b15 h_0 h_1 h_2 h_3 h_4 h_5 h_6)).trans ?_
                refine (r_aload_n rfl rfl rfl).trans ?_
                refine (r_iload_n rfl rfl rfl).trans ?_
                refine (r_iconst (v := 2) rfl rfl rfl).trans ?_
                refine (r_iadd rfl rfl).trans ?_
                refine (r_ialdX rfl rfl (b16 h_0 h_1 h_2 h_3 h_4 h_5 h_6)).trans ?_
                refine (r_aload_n rfl rfl rfl).trans ?_
                refine (r_iload_n rfl rfl rfl).trans ?_
                refine (r_iconst (v := 3) rfl rfl rfl).trans ?_
                refine (r_iadd rfl rfl).trans ?_
                refine (r_ialdX rfl rfl (b17 h_0 h_1 h_2 h_3 h_4 h_5 h_6)).trans ?_
                exact r_inv (m := 101) (c := 9) rfl rfl rfl rfl rfl rfl rfl rfl
              · refine (r_swc (y := 6) rfl).trans ?_
                refine ite_congr rfl (fun h_7 => ?_) (fun h_7 => ?_)
                · refine (r_aload_n rfl rfl rfl).trans ?_
                  exact r_inv (m := 102) (c := 9) rfl rfl rfl rfl rfl rfl rfl rfl
                · refine (r_swc (y := 7) rfl).trans ?_
                  refine ite_congr rfl (fun h_8 => ?_) (fun h_8 => ?_)
                  · refine (r_aload_n rfl rfl rfl).trans ?_
                    refine (r_aload_n rfl rfl rfl).trans ?_
                    refine (r_iload_n rfl rfl rfl).trans ?_
                    refine (r_iconst (v := 1) rfl rfl rfl).trans ?_
                    refine (r_iadd rfl rfl).trans ?_
                    refine (r_ialdX rfl rfl (b18 h_0 h_1 h_2 h_3 h_4 h_5 h_6 h_7 h_8)).trans ?_
                    exact r_inv (m := 103) (c := 9) rfl rfl rfl rfl rfl rfl rfl rfl
                  · refine (r_swc (y := 8) rfl).trans ?_
                    refine ite_congr rfl (fun h_9 => ?_) (fun h_9 => ?_)
                    · refine (r_aload_n rfl rfl rfl).trans ?_
                      refine (r_aload_n rfl rfl rfl).trans ?_
                      refine (r_iload_n rfl rfl rfl).trans ?_
                      refine (r_iconst (v := 1) rfl rfl rfl).trans ?_
                      refine (r_iadd rfl rfl).trans ?_
                      refine (r_ialdX rfl rfl (b19 h_0 h_1 h_2 h_3 h_4 h_5 h_6 h_7 h_8 h_9)).trans ?_
                      refine (r_aload_n rfl rfl rfl).trans ?_
                      refine (r_iload_n rfl rfl rfl).trans ?_
                      refine (r_iconst (v := 2) rfl rfl rfl).trans ?_
                      refine (r_iadd rfl rfl).trans ?_
                      refine (r_ialdX rfl rfl (b20 h_0 h_1 h_2 h_3 h_4 h_5 h_6 h_7 h_8 h_9)).trans ?_
                      exact r_inv (m := 104) (c := 9) rfl rfl rfl rfl rfl rfl rfl rfl
                    · refine (r_swc (y := 9) rfl).trans ?_
                      refine ite_congr rfl (fun h_10 => ?_) (fun h_10 => ?_)
                      · refine (r_aload_n rfl rfl rfl).trans ?_
                        refine (r_aload_n rfl rfl rfl).trans ?_
                        refine (r_iload_n rfl rfl rfl).trans ?_
                        refine (r_iconst (v := 1) rfl rfl rfl).trans ?_
                        refine (r_iadd rfl rfl).trans ?_
                        refine (r_ialdX rfl rfl (b21 h_0 h_1 h_2 h_3 h_4 h_5 h_6 h_7 h_8 h_9 h_10)).trans ?_
                        exact r_inv (m := 105) (c := 9) rfl rfl rfl rfl rfl rfl rfl rfl
                      · refine (r_swc (y := 10) rfl).trans ?_
                        refine ite_congr rfl (fun h_11 => ?_) (fun h_11 => ?_)
                        · refine (r_aload_n rfl rfl rfl).trans ?_
                          refine (r_aload_n rfl rfl rfl).trans ?_
                          refine (r_iload_n rfl rfl rfl).trans ?_
                          refine (r_iconst (v := 1) rfl rfl rfl).trans ?_
                          refine (r_iadd rfl rfl).trans ?_
                          refine (r_ialdX rfl rfl (b22 h_0 h_1 h_2 h_3 h_4 h_5 h_6 h_7 h_8 h_9 h_10 h_11)).trans ?_
                          exact r_inv (m := 106) (c := 9) rfl rfl rfl rfl rfl rfl rfl rfl
                        · refine (r_swc (y := 11) rfl).trans ?_
                          refine ite_congr rfl (fun h_12 => ?_) (fun h_12 => ?_)
                          · refine (r_aload_n rfl rfl rfl).trans ?_
                            refine (r_aload_n rfl rfl rfl).trans ?_
                            refine (r_iload_n rfl rfl rfl).trans ?_
                            refine (r_iconst (v := 1) rfl rfl rfl).trans ?_
                            refine (r_iadd rfl rfl).trans ?_
                            refine (r_ialdX rfl rfl (b23 h_0 h_1 h_2 h_3 h_4 h_5 h_6 h_7 h_8 h_9 h_10 h_11 h_12)).trans ?_
                            exact r_inv (m := 107) (c := 9) rfl rfl rfl rfl rfl rfl rfl rfl
                          · refine (r_swc (y := 12) rfl).trans ?_
                            refine ite_congr rfl (fun h_13 => ?_) (fun h_13 => ?_)
                            · refine (r_aload_n rfl rfl rfl).trans ?_
                              exact r_inv (m := 108) (c := 9) rfl rfl rfl rfl rfl rfl rfl rfl
                            · refine (r_swc (y := 13) rfl).trans ?_
                              refine ite_congr rfl (fun h_14 => ?_) (fun h_14 => ?_)
                              · refine (r_aload_n rfl rfl rfl).trans ?_
                                exact r_inv (m := 109) (c := 9) rfl rfl rfl rfl rfl rfl rfl rfl
                              · refine (r_swc (y := 14) rfl).trans ?_
                                refine ite_congr rfl (fun h_15 => ?_) (fun h_15 => ?_)
                                · refine (r_aload_n rfl rfl rfl).trans ?_
                                  refine (r_aload_n rfl rfl rfl).trans ?_
                                  refine (r_iload_n rfl rfl rfl).trans ?_
                                  refine (r_iconst (v := 1) rfl rfl rfl).trans ?_
                                  refine (r_iadd rfl rfl).trans ?_
                                  refine (r_ialdX rfl rfl (b24 h_0 h_1 h_2 h_3 h_4 h_5 h_6 h_7 h_8 h_9 h_10 h_11 h_12 h_13 h_14 h_15)).trans ?_
                                  refine (r_i2l rfl rfl).trans ?_
                                  refine (r_bipush (v := 32) rfl rfl rfl).trans ?_
                                  refine (r_lshl rfl rfl).trans ?_
                                  refine (r_aload_n rfl rfl rfl).trans ?_
                                  refine (r_iload_n rfl rfl rfl).trans ?_
                                  refine (r_iconst (v := 2) rfl rfl rfl).trans ?_
                                  refine (r_iadd rfl rfl).trans ?_
                                  refine (r_ialdX rfl rfl (b25 h_0 h_1 h_2 h_3 h_4 h_5 h_6 h_7 h_8 h_9 h_10 h_11 h_12 h_13 h_14 h_15)).trans ?_
                                  refine (r_i2l rfl rfl).trans ?_
                                  refine (r_ldc2_w (w := 4294967295) rfl rfl rfl).trans ?_
                                  refine (r_land rfl rfl).trans ?_
                                  refine (r_lor rfl rfl).trans ?_
                                  refine (r_aload_n rfl rfl rfl).trans ?_
                                  refine (r_iload_n rfl rfl rfl).trans ?_
                                  refine (r_iconst (v := 3) rfl rfl rfl).trans ?_
                                  refine (r_iadd rfl rfl).trans ?_
                                  refine (r_ialdX rfl rfl (b26 h_0 h_1 h_2 h_3 h_4 h_5 h_6 h_7 h_8 h_9 h_10 h_11 h_12 h_13 h_14 h_15)).trans ?_
                                  exact r_inv (m := 110) (c := 9) rfl rfl rfl rfl rfl rfl rfl rfl
                                · refine (r_swc (y := 15) rfl).trans ?_
                                  refine ite_congr rfl (fun h_16 => ?_) (fun h_16 => ?_)
                                  · refine (r_aload_n rfl rfl rfl).trans ?_
                                    refine (r_aload_n rfl rfl rfl).trans ?_
                                    refine (r_iload_n rfl rfl rfl).trans ?_
                                    refine (r_iconst (v := 1) rfl rfl rfl).trans ?_
                                    refine (r_iadd rfl rfl).trans ?_
                                    refine (r_ialdX rfl rfl (b27 h_0 h_1 h_2 h_3 h_4 h_5 h_6 h_7 h_8 h_9 h_10 h_11 h_12 h_13 h_14 h_15 h_16)).trans ?_
                                    exact r_inv (m := 111) (c := 9) rfl rfl rfl rfl rfl rfl rfl rfl
                                  · refine (r_swc (y := 16) rfl).trans ?_
                                    refine ite_congr rfl (fun h_17 => ?_) (fun h_17 => ?_)
                                    · refine (r_aload_n rfl rfl rfl).trans ?_
                                      refine (r_aload_n rfl rfl rfl).trans ?_
                                      refine (r_iload_n rfl rfl rfl).trans ?_
                                      refine (r_iconst (v := 1) rfl rfl rfl).trans ?_
                                      refine (r_iadd rfl rfl).trans ?_
                                      refine (r_ialdX rfl rfl (b28 h_0 h_1 h_2 h_3 h_4 h_5 h_6 h_7 h_8 h_9 h_10 h_11 h_12 h_13 h_14 h_15 h_16 h_17)).trans ?_
                                      refine (r_aload_n rfl rfl rfl).trans ?_
                                      refine (r_iload_n rfl rfl rfl).trans ?_
                                      refine (r_iconst (v := 2) rfl rfl rfl).trans ?_
                                      refine (r_iadd rfl rfl).trans ?_
                                      refine (r_ialdX rfl rfl (b29 h_0 h_1 h_2 h_3 h_4 h_5 h_6 h_7 h_8 h_9 h_10 h_11 h_12 h_13 h_14 h_15 h_16 h_17)).trans ?_
                                      refine (r_aload_n rfl rfl rfl).trans ?_
                                      refine (r_iload_n rfl rfl rfl).trans ?_
                                      refine (r_iconst (v := 3) rfl rfl rfl).trans ?_
                                      refine (r_iadd rfl rfl).trans ?_
                                      refine (r_ialdX rfl rfl (b30 h_0 h_1 h_2 h_3 h_4 h_5 h_6 h_7 h_8 h_9 h_10 h_11 h_12 h_13 h_14 h_15 h_16 h_17)).trans ?_
                                      refine (r_aload_n rfl rfl rfl).trans ?_
                                      refine (r_iload_n rfl rfl rfl).trans ?_
                                      refine (r_iconst (v := 4) rfl rfl rfl).trans ?_
                                      refine (r_iadd rfl rfl).trans ?_
                                      refine (r_ialdX rfl rfl (b31 h_0 h_1 h_2 h_3 h_4 h_5 h_6 h_7 h_8 h_9 h_10 h_11 h_12 h_13 h_14 h_15 h_16 h_17)).trans ?_
                                      exact r_inv (m := 112) (c := 9) rfl rfl rfl rfl rfl rfl rfl rfl
                                    · refine (r_swc (y := 17) rfl).trans ?_
                                      refine ite_congr rfl (fun h_18 => ?_) (fun h_18 => ?_)
                                      · refine (r_aload_n rfl rfl rfl).trans ?_
                                        refine (r_aload_n rfl rfl rfl).trans ?_
                                        refine (r_iload_n rfl rfl rfl).trans ?_
                                        refine (r_iconst (v := 1) rfl rfl rfl).trans ?_
                                        refine (r_iadd rfl rfl).trans ?_
                                        refine (r_ialdX rfl rfl (b32 h_0 h_1 h_2 h_3 h_4 h_5 h_6 h_7 h_8 h_9 h_10 h_11 h_12 h_13 h_14 h_15 h_16 h_17 h_18)).trans ?_
                                        exact r_inv (m := 113) (c := 9) rfl rfl rfl rfl rfl rfl rfl rfl
                                      · refine (r_swc (y := 18) rfl).trans ?_
                                        refine ite_congr rfl (fun h_19 => ?_) (fun h_19 => ?_)
                                        · refine (r_aload_n rfl rfl rfl).trans ?_
                                          refine (r_aload_n rfl rfl rfl).trans ?_
                                          refine (r_iload_n rfl rfl rfl).trans ?_
                                          refine (r_iconst (v := 1) rfl rfl rfl).trans ?_
                                          refine (r_iadd rfl rfl).trans ?_
                                          refine (r_ialdX rfl rfl (b33 h_0 h_1 h_2 h_3 h_4 h_5 h_6 h_7 h_8 h_9 h_10 h_11 h_12 h_13 h_14 h_15 h_16 h_17 h_18 h_19)).trans ?_
                                          exact r_inv (m := 114) (c := 9) rfl rfl rfl rfl rfl rfl rfl rfl
                                        · refine (r_swc (y := 19) rfl).trans ?_
                                          refine ite_congr rfl (fun h_20 => ?_) (fun h_20 => ?_)
                                          · refine (r_aload_n rfl rfl rfl).trans ?_
                                            refine (r_aload_n rfl rfl rfl).trans ?_
                                            refine (r_iload_n rfl rfl rfl).trans ?_
                                            refine (r_iconst (v := 1) rfl rfl rfl).trans ?_
                                            refine (r_iadd rfl rfl).trans ?_
                                            refine (r_ialdX rfl rfl (b34 h_0 h_1 h_2 h_3 h_4 h_5 h_6 h_7 h_8 h_9 h_10 h_11 h_12 h_13 h_14 h_15 h_16 h_17 h_18 h_19 h_20)).trans ?_
                                            exact r_inv (m := 115) (c := 9) rfl rfl rfl rfl rfl rfl rfl rfl
                                          · refine (r_swc (y := 20) rfl).trans ?_
                                            refine ite_congr rfl (fun h_21 => ?_) (fun h_21 => ?_)
                                            · refine (r_aload_n rfl rfl rfl).trans ?_
                                              refine (r_aload_n rfl rfl rfl).trans ?_
                                              refine (r_iload_n rfl rfl rfl).trans ?_
                                              refine (r_iconst (v := 1) rfl rfl rfl).trans ?_
                                              refine (r_iadd rfl rfl).trans ?_
                                              refine (r_ialdX rfl rfl (b35 h_0 h_1 h_2 h_3 h_4 h_5 h_6 h_7 h_8 h_9 h_10 h_11 h_12 h_13 h_14 h_15 h_16 h_17 h_18 h_19 h_20 h_21)).trans ?_
                                              refine (r_aload_n rfl rfl rfl).trans ?_
                                              refine (r_iload_n rfl rfl rfl).trans ?_
                                              refine (r_iconst (v := 2) rfl rfl rfl).trans ?_
                                              refine (r_iadd rfl rfl).trans ?_
                                              refine (r_ialdX rfl rfl (b36 h_0 h_1 h_2 h_3 h_4 h_5 h_6 h_7 h_8 h_9 h_10 h_11 h_12 h_13 h_14 h_15 h_16 h_17 h_18 h_19 h_20 h_21)).trans ?_
                                              refine (r_aload_n rfl rfl rfl).trans ?_
                                              refine (r_iload_n rfl rfl rfl).trans ?_
                                              refine (r_iconst (v := 3) rfl rfl rfl).trans ?_
                                              refine (r_iadd rfl rfl).trans ?_
                                              refine (r_ialdX rfl rfl (b37 h_0 h_1 h_2 h_3 h_4 h_5 h_6 h_7 h_8 h_9 h_10 h_11 h_12 h_13 h_14 h_15 h_16 h_17 h_18 h_19 h_20 h_21)).trans ?_
                                              exact r_inv (m := 116) (c := 9) rfl rfl rfl rfl rfl rfl rfl rfl
                                            · refine (r_swc (y := 21) rfl).trans ?_
                                              refine ite_congr rfl (fun h_22 => ?_) (fun h_22 => ?_)
                                              · refine (r_aload_n rfl rfl rfl).trans ?_
                                                refine (r_aload_n rfl rfl rfl).trans ?_
                                                refine (r_iload_n rfl rfl rfl).trans ?_
                                                refine (r_iconst (v := 1) rfl rfl rfl).trans ?_
                                                refine (r_iadd rfl rfl).trans ?_
                                                refine (r_ialdX rfl rfl (b38 h_0 h_1 h_2 h_3 h_4 h_5 h_6 h_7 h_8 h_9 h_10 h_11 h_12 h_13 h_14 h_15 h_16 h_17 h_18 h_19 h_20 h_21 h_22)).trans ?_
                                                exact r_inv (m := 117) (c := 9) rfl rfl rfl rfl rfl rfl rfl rfl
                                              · refine (r_swc (y := 22) rfl).trans ?_
                                                refine ite_congr rfl (fun h_23 => ?_) (fun h_23 => ?_)
                                                · refine (r_aload_n rfl rfl rfl).trans ?_
                                                  exact r_inv (m := 118) (c := 9) rfl rfl rfl rfl rfl rfl rfl rfl
                                                · refine (r_swc (y := 23) rfl).trans ?_
                                                  refine ite_congr rfl (fun h_24 => ?_) (fun h_24 => ?_)
                                                  · refine (r_aload_n rfl rfl rfl).trans ?_
                                                    refine (r_aload_n rfl rfl rfl).trans ?_
                                                    refine (r_iload_n rfl rfl rfl).trans ?_
                                                    refine (r_iconst (v := 1) rfl rfl rfl).trans ?_
                                                    refine (r_iadd rfl rfl).trans ?_
                                                    refine (r_ialdX rfl rfl (b39 h_0 h_1 h_2 h_3 h_4 h_5 h_6 h_7 h_8 h_9 h_10 h_11 h_12 h_13 h_14 h_15 h_16 h_17 h_18 h_19 h_20 h_21 h_22 h_23 h_24)).trans ?_
                                                    refine (r_aload_n rfl rfl rfl).trans ?_
                                                    refine (r_iload_n rfl rfl rfl).trans ?_
                                                    refine (r_iconst (v := 2) rfl rfl rfl).trans ?_
                                                    refine (r_iadd rfl rfl).trans ?_
                                                    refine (r_ialdX rfl rfl (b40 h_0 h_1 h_2 h_3 h_4 h_5 h_6 h_7 h_8 h_9 h_10 h_11 h_12 h_13 h_14 h_15 h_16 h_17 h_18 h_19 h_20 h_21 h_22 h_23 h_24)).trans ?_
                                                    exact r_inv (m := 119) (c := 9) rfl rfl rfl rfl rfl rfl rfl rfl
                                                  · refine (r_swc (y := 24) rfl).trans ?_
                                                    refine ite_congr rfl (fun h_25 => ?_) (fun h_25 => ?_)
                                                    · refine (r_aload_n rfl rfl rfl).trans ?_
                                                      refine (r_aload_n rfl rfl rfl).trans ?_
                                                      refine (r_iload_n rfl rfl rfl).trans ?_
                                                      refine (r_iconst (v := 1) rfl rfl rfl).trans ?_
                                                      refine (r_iadd rfl rfl).trans ?_
                                                      refine (r_ialdX rfl rfl (b41 h_0 h_1 h_2 h_3 h_4 h_5 h_6 h_7 h_8 h_9 h_10 h_11 h_12 h_13 h_14 h_15 h_16 h_17 h_18 h_19 h_20 h_21 h_22 h_23 h_24 h_25)).trans ?_
                                                      exact r_inv (m := 120) (c := 9) rfl rfl rfl rfl rfl rfl rfl rfl
                                                    · refine (r_swc (y := 25) rfl).trans ?_
                                                      refine ite_congr rfl (fun h_26 => ?_) (fun h_26 => ?_)
                                                      · refine (r_aload_n rfl rfl rfl).trans ?_
                                                        refine (r_aload_n rfl rfl rfl).trans ?_
                                                        refine (r_iload_n rfl rfl rfl).trans ?_
                                                        refine (r_iconst (v := 1) rfl rfl rfl).trans ?_
                                                        refine (r_iadd rfl rfl).trans ?_
                                                        refine (r_ialdX rfl rfl (b42 h_0 h_1 h_2 h_3 h_4 h_5 h_6 h_7 h_8 h_9 h_10 h_11 h_12 h_13 h_14 h_15 h_16 h_17 h_18 h_19 h_20 h_21 h_22 h_23 h_24 h_25 h_26)).trans ?_
                                                        exact r_inv (m := 121) (c := 9) rfl rfl rfl rfl rfl rfl rfl rfl
                                                      · refine (r_swc (y := 26) rfl).trans ?_
                                                        refine ite_congr rfl (fun h_27 => ?_) (fun h_27 => ?_)
                                                        · refine (r_aload_n rfl rfl rfl).trans ?_
                                                          refine (r_aload_n rfl rfl rfl).trans ?_
                                                          refine (r_iload_n rfl rfl rfl).trans ?_
                                                          refine (r_iconst (v := 1) rfl rfl rfl).trans ?_
                                                          refine (r_iadd rfl rfl).trans ?_
                                                          refine (r_ialdX rfl rfl (b43 h_0 h_1 h_2 h_3 h_4 h_5 h_6 h_7 h_8 h_9 h_10 h_11 h_12 h_13 h_14 h_15 h_16 h_17 h_18 h_19 h_20 h_21 h_22 h_23 h_24 h_25 h_26 h_27)).trans ?_
                                                          exact r_inv (m := 122) (c := 9) rfl rfl rfl rfl rfl rfl rfl rfl
                                                        · refine (r_swc (y := 27) rfl).trans ?_
                                                          refine ite_congr rfl (fun h_28 => ?_) (fun h_28 => ?_)
                                                          · refine (r_aload_n rfl rfl rfl).trans ?_
                                                            refine (r_aload_n rfl rfl rfl).trans ?_
                                                            refine (r_iload_n rfl rfl rfl).trans ?_
                                                            refine (r_iconst (v := 1) rfl rfl rfl).trans ?_
                                                            refine (r_iadd rfl rfl).trans ?_
                                                            refine (r_ialdX rfl rfl (b44 h_0 h_1 h_2 h_3 h_4 h_5 h_6 h_7 h_8 h_9 h_10 h_11 h_12 h_13 h_14 h_15 h_16 h_17 h_18 h_19 h_20 h_21 h_22 h_23 h_24 h_25 h_26 h_27 h_28)).trans ?_
                                                            refine (r_aload_n rfl rfl rfl).trans ?_
                                                            refine (r_iload_n rfl rfl rfl).trans ?_
                                                            refine (r_iconst (v := 2) rfl rfl rfl).trans ?_
                                                            refine (r_iadd rfl rfl).trans ?_
                                                            refine (r_ialdX rfl rfl (b45 h_0 h_1 h_2 h_3 h_4 h_5 h_6 h_7 h_8 h_9 h_10 h_11 h_12 h_13 h_14 h_15 h_16 h_17 h_18 h_19 h_20 h_21 h_22 h_23 h_24 h_25 h_26 h_27 h_28)).trans ?_
                                                            refine (r_aload_n rfl rfl rfl).trans ?_
                                                            refine (r_iload_n rfl rfl rfl).trans ?_
                                                            refine (r_iconst (v := 3) rfl rfl rfl).trans ?_
                                                            refine (r_iadd rfl rfl).trans ?_
                                                            refine (r_ialdX rfl rfl (b46 h_0 h_1 h_2 h_3 h_4 h_5 h_6 h_7 h_8 h_9 h_10 h_11 h_12 h_13 h_14 h_15 h_16 h_17 h_18 h_19 h_20 h_21 h_22 h_23 h_24 h_25 h_26 h_27 h_28)).trans ?_
                                                            exact r_inv (m := 123) (c := 9) rfl rfl rfl rfl rfl rfl rfl rfl
                                                          · refine (r_swc (y := 28) rfl).trans ?_
                                                            refine ite_congr rfl (fun h_29 => ?_) (fun h_29 => ?_)
                                                            · refine (r_aload_n rfl rfl rfl).trans ?_
                                                              refine (r_aload_n rfl rfl rfl).trans ?_
                                                              refine (r_iload_n rfl rfl rfl).trans ?_
                                                              refine (r_iconst (v := 1) rfl rfl rfl).trans ?_
                                                              refine (r_iadd rfl rfl).trans ?_
                                                              refine (r_ialdX rfl rfl (b47 h_0 h_1 h_2 h_3 h_4 h_5 h_6 h_7 h_8 h_9 h_10 h_11 h_12 h_13 h_14 h_15 h_16 h_17 h_18 h_19 h_20 h_21 h_22 h_23 h_24 h_25 h_26 h_27 h_28 h_29)).trans ?_
                                                              exact r_inv (m := 124) (c := 9) rfl rfl rfl rfl rfl rfl rfl rfl
                                                            · refine (r_swc (y := 29) rfl).trans ?_
                                                              refine ite_congr rfl (fun h_30 => ?_) (fun h_30 => ?_)
                                                              · refine (r_aload_n rfl rfl rfl).trans ?_
                                                                refine (r_aload_n rfl rfl rfl).trans ?_
                                                                refine (r_iload_n rfl rfl rfl).trans ?_
                                                                refine (r_iconst (v := 1) rfl rfl rfl).trans ?_
                                                                refine (r_iadd rfl rfl).trans ?_
                                                                refine (r_ialdX rfl rfl (b48 h_0 h_1 h_2 h_3 h_4 h_5 h_6 h_7 h_8 h_9 h_10 h_11 h_12 h_13 h_14 h_15 h_16 h_17 h_18 h_19 h_20 h_21 h_22 h_23 h_24 h_25 h_26 h_27 h_28 h_29 h_30)).trans ?_
                                                                refine (r_aload_n rfl rfl rfl).trans ?_
                                                                refine (r_iload_n rfl rfl rfl).trans ?_
                                                                refine (r_iconst (v := 2) rfl rfl rfl).trans ?_
                                                                refine (r_iadd rfl rfl).trans ?_
                                                                refine (r_ialdX rfl rfl (b49 h_0 h_1 h_2 h_3 h_4 h_5 h_6 h_7 h_8 h_9 h_10 h_11 h_12 h_13 h_14 h_15 h_16 h_17 h_18 h_19 h_20 h_21 h_22 h_23 h_24 h_25 h_26 h_27 h_28 h_29 h_30)).trans ?_
                                                                refine (r_aload_n rfl rfl rfl).trans ?_
                                                                refine (r_iload_n rfl rfl rfl).trans ?_
                                                                refine (r_iconst (v := 3) rfl rfl rfl).trans ?_
                                                                refine (r_iadd rfl rfl).trans ?_
                                                                refine (r_ialdX rfl rfl (b50 h_0 h_1 h_2 h_3 h_4 h_5 h_6 h_7 h_8 h_9 h_10 h_11 h_12 h_13 h_14 h_15 h_16 h_17 h_18 h_19 h_20 h_21 h_22 h_23 h_24 h_25 h_26 h_27 h_28 h_29 h_30)).trans ?_
                                                                exact r_inv (m := 125) (c := 9) rfl rfl rfl rfl rfl rfl rfl rfl
                                                              · refine (r_swc (y := 30) rfl).trans ?_
                                                                refine ite_congr rfl (fun h_31 => ?_) (fun h_31 => ?_)
                                                                · refine (r_aload_n rfl rfl rfl).trans ?_
                                                                  refine (r_aload_n rfl rfl rfl).trans ?_
                                                                  refine (r_iload_n rfl rfl rfl).trans ?_
                                                                  refine (r_iconst (v := 1) rfl rfl rfl).trans ?_
                                                                  refine (r_iadd rfl rfl).trans ?_
                                                                  refine (r_ialdX rfl rfl (b51 h_0 h_1 h_2 h_3 h_4 h_5 h_6 h_7 h_8 h_9 h_10 h_11 h_12 h_13 h_14 h_15 h_16 h_17 h_18 h_19 h_20 h_21 h_22 h_23 h_24 h_25 h_26 h_27 h_28 h_29 h_30 h_31)).trans ?_
                                                                  refine (r_aload_n rfl rfl rfl).trans ?_
                                                                  refine (r_iload_n rfl rfl rfl).trans ?_
                                                                  refine (r_iconst (v := 2) rfl rfl rfl).trans ?_
                                                                  refine (r_iadd rfl rfl).trans ?_
                                                                  refine (r_ialdX rfl rfl (b52 h_0 h_1 h_2 h_3 h_4 h_5 h_6 h_7 h_8 h_9 h_10 h_11 h_12 h_13 h_14 h_15 h_16 h_17 h_18 h_19 h_20 h_21 h_22 h_23 h_24 h_25 h_26 h_27 h_28 h_29 h_30 h_31)).trans ?_
                                                                  refine (r_aload_n rfl rfl rfl).trans ?_
                                                                  refine (r_iload_n rfl rfl rfl).trans ?_
                                                                  refine (r_iconst (v := 3) rfl rfl rfl).trans ?_
                                                                  refine (r_iadd rfl rfl).trans ?_
                                                                  refine (r_ialdX rfl rfl (b53 h_0 h_1 h_2 h_3 h_4 h_5 h_6 h_7 h_8 h_9 h_10 h_11 h_12 h_13 h_14 h_15 h_16 h_17 h_18 h_19 h_20 h_21 h_22 h_23 h_24 h_25 h_26 h_27 h_28 h_29 h_30 h_31)).trans ?_
                                                                  exact r_inv (m := 126) (c := 9) rfl rfl rfl rfl rfl rfl rfl rfl
                                                                · refine (r_swc (y := 31) rfl).trans ?_
                                                                  refine ite_congr rfl (fun h_32 => ?_) (fun h_32 => ?_)
                                                                  · refine (r_aload_n rfl rfl rfl).trans ?_
                                                                    refine (r_aload_n rfl rfl rfl).trans ?_
                                                                    refine (r_iload_n rfl rfl rfl).trans ?_
                                                                    refine (r_iconst (v := 1) rfl rfl rfl).trans ?_
                                                                    refine (r_iadd rfl rfl).trans ?_
                                                                    refine (r_ialdX rfl rfl (b54 h_0 h_1 h_2 h_3 h_4 h_5 h_6 h_7 h_8 h_9 h_10 h_11 h_12 h_13 h_14 h_15 h_16 h_17 h_18 h_19 h_20 h_21 h_22 h_23 h_24 h_25 h_26 h_27 h_28 h_29 h_30 h_31 h_32)).trans ?_
                                                                    refine (r_aload_n rfl rfl rfl).trans ?_
                                                                    refine (r_iload_n rfl rfl rfl).trans ?_
                                                                    refine (r_iconst (v := 2) rfl rfl rfl).trans ?_
                                                                    refine (r_iadd rfl rfl).trans ?_
                                                                    refine (r_ialdX rfl rfl (b55 h_0 h_1 h_2 h_3 h_4 h_5 h_6 h_7 h_8 h_9 h_10 h_11 h_12 h_13 h_14 h_15 h_16 h_17 h_18 h_19 h_20 h_21 h_22 h_23 h_24 h_25 h_26 h_27 h_28 h_29 h_30 h_31 h_32)).trans ?_
                                                                    refine (r_aload_n rfl rfl rfl).trans ?_
                                                                    refine (r_iload_n rfl rfl rfl).trans ?_
                                                                    refine (r_iconst (v := 3) rfl rfl rfl).trans ?_
                                                                    refine (r_iadd rfl rfl).trans ?_
                                                                    refine (r_ialdX rfl rfl (b56 h_0 h_1 h_2 h_3 h_4 h_5 h_6 h_7 h_8 h_9 h_10 h_11 h_12 h_13 h_14 h_15 h_16 h_17 h_18 h_19 h_20 h_21 h_22 h_23 h_24 h_25 h_26 h_27 h_28 h_29 h_30 h_31 h_32)).trans ?_
                                                                    refine (r_aload_n rfl rfl rfl).trans ?_
                                                                    refine (r_iload_n rfl rfl rfl).trans ?_
                                                                    refine (r_iconst (v := 4) rfl rfl rfl).trans ?_
                                                                    refine (r_iadd rfl rfl).trans ?_
                                                                    refine (r_ialdX rfl rfl (b57 h_0 h_1 h_2 h_3 h_4 h_5 h_6 h_7 h_8 h_9 h_10 h_11 h_12 h_13 h_14 h_15 h_16 h_17 h_18 h_19 h_20 h_21 h_22 h_23 h_24 h_25 h_26 h_27 h_28 h_29 h_30 h_31 h_32)).trans ?_
                                                                    refine (r_aload_n rfl rfl rfl).trans ?_
                                                                    refine (r_iload_n rfl rfl rfl).trans ?_
                                                                    refine (r_iconst (v := 5) rfl rfl rfl).trans ?_
                                                                    refine (r_iadd rfl rfl).trans ?_
                                                                    refine (r_ialdX rfl rfl (b58 h_0 h_1 h_2 h_3 h_4 h_5 h_6 h_7 h_8 h_9 h_10 h_11 h_12 h_13 h_14 h_15 h_16 h_17 h_18 h_19 h_20 h_21 h_22 h_23 h_24 h_25 h_26 h_27 h_28 h_29 h_30 h_31 h_32)).trans ?_
                                                                    exact r_inv (m := 127) (c := 9) rfl rfl rfl rfl rfl rfl rfl rfl
                                                                  · refine (r_swc (y := 32) rfl).trans ?_
                                                                    refine ite_congr rfl (fun h_33 => ?_) (fun h_33 => ?_)
                                                                    · refine (r_aload_n rfl rfl rfl).trans ?_
                                                                      refine (r_aload_n rfl rfl rfl).trans ?_
                                                                      refine (r_iload_n rfl rfl rfl).trans ?_
                                                                      refine (r_iconst (v := 1) rfl rfl rfl).trans ?_
                                                                      refine (r_iadd rfl rfl).trans ?_
                                                                      refine (r_ialdX rfl rfl (b59 h_0 h_1 h_2 h_3 h_4 h_5 h_6 h_7 h_8 h_9 h_10 h_11 h_12 h_13 h_14 h_15 h_16 h_17 h_18 h_19 h_20 h_21 h_22 h_23 h_24 h_25 h_26 h_27 h_28 h_29 h_30 h_31 h_32 h_33)).trans ?_
                                                                      exact r_inv (m := 128) (c := 9) rfl rfl rfl rfl rfl rfl rfl rfl
                                                                    · refine (r_swc (y := 33) rfl).trans ?_
                                                                      refine ite_congr rfl (fun h_34 => ?_) (fun h_34 => ?_)
                                                                      · refine (r_aload_n rfl rfl rfl).trans ?_
                                                                        refine (r_aload_n rfl rfl rfl).trans ?_
                                                                        refine (r_iload_n rfl rfl rfl).trans ?_
                                                                        refine (r_iconst (v := 1) rfl rfl rfl).trans ?_
                                                                        refine (r_iadd rfl rfl).trans ?_
                                                                        refine (r_ialdX rfl rfl (b60 h_0 h_1 h_2 h_3 h_4 h_5 h_6 h_7 h_8 h_9 h_10 h_11 h_12 h_13 h_14 h_15 h_16 h_17 h_18 h_19 h_20 h_21 h_22 h_23 h_24 h_25 h_26 h_27 h_28 h_29 h_30 h_31 h_32 h_33 h_34)).trans ?_
                                                                        exact r_inv (m := 129) (c := 9) rfl rfl rfl rfl rfl rfl rfl rfl
                                                                      · refine (r_swc (y := 34) rfl).trans ?_
                                                                        refine ite_congr rfl (fun h_35 => ?_) (fun h_35 => ?_)
                                                                        · refine (r_aload_n rfl rfl rfl).trans ?_
                                                                          exact r_inv (m := 130) (c := 9) rfl rfl rfl rfl rfl rfl rfl rfl
                                                                        · refine (r_swc (y := 35) rfl).trans ?_
                                                                          refine ite_congr rfl (fun h_36 => ?_) (fun h_36 => ?_)
                                                                          · refine (r_aload_n rfl rfl rfl).trans ?_
                                                                            exact r_inv (m := 131) (c := 9) rfl rfl rfl rfl rfl rfl rfl rfl
                                                                          · refine (r_swc (y := 36) rfl).trans ?_
                                                                            refine ite_congr rfl (fun h_37 => ?_) (fun h_37 => ?_)
                                                                            · refine (r_aload_n rfl rfl rfl).trans ?_
                                                                              refine (r_aload_n rfl rfl rfl).trans ?_
                                                                              refine (r_iload_n rfl rfl rfl).trans ?_
                                                                              refine (r_iconst (v := 1) rfl rfl rfl).trans ?_
                                                                              refine (r_iadd rfl rfl).trans ?_
                                                                              refine (r_ialdX rfl rfl (b61 h_0 h_1 h_2 h_3 h_4 h_5 h_6 h_7 h_8 h_9 h_10 h_11 h_12 h_13 h_14 h_15 h_16 h_17 h_18 h_19 h_20 h_21 h_22 h_23 h_24 h_25 h_26 h_27 h_28 h_29 h_30 h_31 h_32 h_33 h_34 h_35 h_36 h_37)).trans ?_
                                                                              exact r_inv (m := 132) (c := 9) rfl rfl rfl rfl rfl rfl rfl rfl
                                                                            · refine (r_swc (y := 37) rfl).trans ?_
                                                                              refine ite_congr rfl (fun h_38 => ?_) (fun h_38 => ?_)
                                                                              · refine (r_aload_n rfl rfl rfl).trans ?_
                                                                                exact r_inv (m := 133) (c := 9) rfl rfl rfl rfl rfl rfl rfl rfl
                                                                              · refine (r_swc (y := 38) rfl).trans ?_
                                                                                refine ite_congr rfl (fun h_39 => ?_) (fun h_39 => ?_)
                                                                                · refine (r_aload_n rfl rfl rfl).trans ?_
                                                                                  refine (r_aload_n rfl rfl rfl).trans ?_
                                                                                  refine (r_iload_n rfl rfl rfl).trans ?_
                                                                                  refine (r_iconst (v := 1) rfl rfl rfl).trans ?_
                                                                                  refine (r_iadd rfl rfl).trans ?_
                                                                                  refine (r_ialdX rfl rfl (b62 h_0 h_1 h_2 h_3 h_4 h_5 h_6 h_7 h_8 h_9 h_10 h_11 h_12 h_13 h_14 h_15 h_16 h_17 h_18 h_19 h_20 h_21 h_22 h_23 h_24 h_25 h_26 h_27 h_28 h_29 h_30 h_31 h_32 h_33 h_34 h_35 h_36 h_37 h_38 h_39)).trans ?_
                                                                                  exact r_inv (m := 134) (c := 9) rfl rfl rfl rfl rfl rfl rfl rfl
                                                                                · refine (r_swc (y := 39) rfl).trans ?_
                                                                                  refine ite_congr rfl (fun h_40 => ?_) (fun h_40 => ?_)
                                                                                  · refine (r_aload_n rfl rfl rfl).trans ?_
                                                                                    refine (r_aload_n rfl rfl rfl).trans ?_
                                                                                    refine (r_iload_n rfl rfl rfl).trans ?_
                                                                                    refine (r_iconst (v := 1) rfl rfl rfl).trans ?_
                                                                                    refine (r_iadd rfl rfl).trans ?_
                                                                                    refine (r_ialdX rfl rfl (b63 h_0 h_1 h_2 h_3 h_4 h_5 h_6 h_7 h_8 h_9 h_10 h_11 h_12 h_13 h_14 h_15 h_16 h_17 h_18 h_19 h_20 h_21 h_22 h_23 h_24 h_25 h_26 h_27 h_28 h_29 h_30 h_31 h_32 h_33 h_34 h_35 h_36 h_37 h_38 h_39 h_40)).trans ?_
                                                                                    exact r_inv (m := 135) (c := 9) rfl rfl rfl rfl rfl rfl rfl rfl
                                                                                  · refine r_swn.trans ?_
                                                                                    refine (r_iinc (y := 6) rfl rfl rfl rfl rfl rfl).trans ?_
                                                                                    refine (r_goto rfl rfl).trans ?_
                                                                                    exact rfl

theorem sg_L_law_232 {d : Nat} {E : pEv} {ro : Nat → Nat → Int32} {Q : Option Value → pH → Prop} (s_E : oE E) {x3 : Int32} {xs0 : Int32} (b0 : (¬ (x3 + 1) < 0 ∧ (x3 + 1).toNatClampNeg < E.1)) (b1 : (¬ (x3 + 2) < 0 ∧ (x3 + 2).toNatClampNeg < E.1)) (b2 : (¬ (x3 + 3) < 0 ∧ (x3 + 3).toNatClampNeg < E.1)) (b3 : (¬ (x3 + 4) < 0 ∧ (x3 + 4).toNatClampNeg < E.1)) : wG d 258 (232, [.ref 9, .ref 10, .ref 101, .int x3], [.int xs0], mkH E ro) Q = wX d 181 [.ref 101, .int (E.2.1 (x3 + 1).toNatClampNeg), .int (E.2.1 (x3 + 2).toNatClampNeg), .int (E.2.1 (x3 + 3).toNatClampNeg), .int (E.2.1 (x3 + 4).toNatClampNeg)] (mkH E ro) (fun v h' => wG d 258 (256, [.ref 9, .ref 10, .ref 101, .int x3], pv v [.int xs0], h') Q) := by
  refine (r_aload_n rfl rfl rfl).trans ?_
  refine (r_aload_n rfl rfl rfl).trans ?_
  refine (r_iload_n rfl rfl rfl).trans ?_
  refine (r_iconst (v := 1) rfl rfl rfl).trans ?_
  refine (r_iadd rfl rfl).trans ?_
  refine (r_ialdX rfl rfl b0).trans ?_
  refine (r_aload_n rfl rfl rfl).trans ?_
  refine (r_iload_n rfl rfl rfl).trans ?_
  refine (r_iconst (v := 2) rfl rfl rfl).trans ?_
  refine (r_iadd rfl rfl).trans ?_
  refine (r_ialdX rfl rfl b1).trans ?_
  refine (r_aload_n rfl rfl rfl).trans ?_
  refine (r_iload_n rfl rfl rfl).trans ?_
  refine (r_iconst (v := 3) rfl rfl rfl).trans ?_
  refine (r_iadd rfl rfl).trans ?_
  refine (r_ialdX rfl rfl b2).trans ?_
  refine (r_aload_n rfl rfl rfl).trans ?_
  refine (r_iload_n rfl rfl rfl).trans ?_
  refine (r_iconst (v := 4) rfl rfl rfl).trans ?_
  refine (r_iadd rfl rfl).trans ?_
  refine (r_ialdX rfl rfl b3).trans ?_
  exact r_inv (m := 181) (c := 10) rfl rfl rfl rfl rfl rfl rfl rfl

theorem sg_L_law_256 {d : Nat} {E : pEv} {ro : Nat → Nat → Int32} {Q : Option Value → pH → Prop} (s_E : oE E) {x3 : Int32} {xs0 : Int32} {xs1 : Int32} : wG d 258 (256, [.ref 9, .ref 10, .ref 101, .int x3], [.int xs1, .int xs0], mkH E ro) Q = (if xs0 = xs1 then wG d 258 (18, [.ref 9, .ref 10, .ref 101, .int (x3 + 6)], [], mkH E ro) Q else Q (some (.int 0)) (mkH E ro)) := by
  refine (r_icmp_eq rfl rfl rfl).trans ?_
  refine ite_congr rfl (fun h_0 => ?_) (fun h_0 => ?_)
  · refine (r_iinc (y := 6) rfl rfl rfl rfl rfl rfl).trans ?_
    refine (r_goto rfl rfl).trans ?_
    exact rfl
  · refine (r_iconst (v := 0) rfl rfl rfl).trans ?_
    exact r_zret rfl rfl rfl

theorem sg_L_law_285 {d : Nat} {E : pEv} {ro : Nat → Nat → Int32} {Q : Option Value → pH → Prop} (s_E : oE E) {x3 : Int32} {xs0 : Int32} (b0 : (¬ (x3 + 1) < 0 ∧ (x3 + 1).toNatClampNeg < E.1)) (b1 : (¬ (x3 + 2) < 0 ∧ (x3 + 2).toNatClampNeg < E.1)) (b2 : (¬ (x3 + 3) < 0 ∧ (x3 + 3).toNatClampNeg < E.1)) (b3 : (¬ (x3 + 4) < 0 ∧ (x3 + 4).toNatClampNeg < E.1)) : wG d 258 (285, [.ref 9, .ref 10, .ref 101, .int x3], [.int xs0], mkH E ro) Q = wX d 182 [.ref 101, .int (E.2.1 (x3 + 1).toNatClampNeg), .int (E.2.1 (x3 + 2).toNatClampNeg), .int (E.2.1 (x3 + 3).toNatClampNeg), .int (E.2.1 (x3 + 4).toNatClampNeg)] (mkH E ro) (fun v h' => wG d 258 (309, [.ref 9, .ref 10, .ref 101, .int x3], pv v [.int xs0], h') Q) := by
  refine (r_aload_n rfl rfl rfl).trans ?_
  refine (r_aload_n rfl rfl rfl).trans ?_
  refine (r_iload_n rfl rfl rfl).trans ?_
  refine (r_iconst (v := 1) rfl rfl rfl).trans ?_
  refine (r_iadd rfl rfl).trans ?_
  refine (r_ialdX rfl rfl b0).trans ?_
  refine (r_aload_n rfl rfl rfl).trans ?_
  refine (r_iload_n rfl rfl rfl).trans ?_
  refine (r_iconst (v := 2) rfl rfl rfl).trans ?_
  refine (r_iadd rfl rfl).trans ?_
  refine (r_ialdX rfl rfl b1).trans ?_
  refine (r_aload_n rfl rfl rfl).trans ?_
  refine (r_iload_n rfl rfl rfl).trans ?_
  refine (r_iconst (v := 3) rfl rfl rfl).trans ?_
  refine (r_iadd rfl rfl).trans ?_
  refine (r_ialdX rfl rfl b2).trans ?_
  refine (r_aload_n rfl rfl rfl).trans ?_
  refine (r_iload_n rfl rfl rfl).trans ?_
  refine (r_iconst (v := 4) rfl rfl rfl).trans ?_
  refine (r_iadd rfl rfl).trans ?_
  refine (r_ialdX rfl rfl b3).trans ?_
  exact r_inv (m := 182) (c := 10) rfl rfl rfl rfl rfl rfl rfl rfl

theorem sg_L_law_309 {d : Nat} {E : pEv} {ro : Nat → Nat → Int32} {Q : Option Value → pH → Prop} (s_E : oE E) {x3 : Int32} {xs0 : Int32} {xs1 : Int32} : wG d 258 (309, [.ref 9, .ref 10, .ref 101, .int x3], [.int xs1, .int xs0], mkH E ro) Q = (if xs0 = xs1 then wG d 258 (18, [.ref 9, .ref 10, .ref 101, .int (x3 + 6)], [], mkH E ro) Q else Q (some (.int 0)) (mkH E ro)) := by
  refine (r_icmp_eq rfl rfl rfl).trans ?_
  refine ite_congr rfl (fun h_0 => ?_) (fun h_0 => ?_)
  · refine (r_iinc (y := 6) rfl rfl rfl rfl rfl rfl).trans ?_
    refine (r_goto rfl rfl).trans ?_
    exact rfl
  · refine (r_iconst (v := 0) rfl rfl rfl).trans ?_
    exact r_zret rfl rfl rfl

theorem sg_L_law_328 {d : Nat} {E : pEv} {ro : Nat → Nat → Int32} {Q : Option Value → pH → Prop} (s_E : oE E) {x3 : Int32} {xs0 : Int32} (b0 : (¬ (x3 + 1) < 0 ∧ (x3 + 1).toNatClampNeg < E.1)) (b1 : (¬ (x3 + 2) < 0 ∧ (x3 + 2).toNatClampNeg < E.1)) : wG d 258 (328, [.ref 9, .ref 10, .ref 101, .int x3], [.int xs0], mkH E ro) Q = wX d 183 [.ref 101, .int (E.2.1 (x3 + 1).toNatClampNeg), .int (E.2.1 (x3 + 2).toNatClampNeg)] (mkH E ro) (fun v h' => wG d 258 (342, [.ref 9, .ref 10, .ref 101, .int x3], pv v [.int xs0], h') Q) := by
  refine (r_aload_n rfl rfl rfl).trans ?_
  refine (r_aload_n rfl rfl rfl).trans ?_
  refine (r_iload_n rfl rfl rfl).trans ?_
  refine (r_iconst (v := 1) rfl rfl rfl).trans ?_
  refine (r_iadd rfl rfl).trans ?_
  refine (r_ialdX rfl rfl b0).trans ?_
  refine (r_aload_n rfl rfl rfl).trans ?_
  refine (r_iload_n rfl rfl rfl).trans ?_
  refine (r_iconst (v := 2) rfl rfl rfl).trans ?_
  refine (r_iadd rfl rfl).trans ?_
  refine (r_ialdX rfl rfl b1).trans ?_
  exact r_inv (m := 183) (c := 10) rfl rfl rfl rfl rfl rfl rfl rfl

theorem sg_L_law_342 {d : Nat} {E : pEv} {ro : Nat → Nat → Int32} {Q : Option Value → pH → Prop} (s_E : oE E) {x3 : Int32} {xs0 : Int32} {xs1 : Int32} : wG d 258 (342, [.ref 9, .ref 10, .ref 101, .int x3], [.int xs1, .int xs0], mkH E ro) Q = (if xs0 = xs1 then wG d 258 (18, [.ref 9, .ref 10, .ref 101, .int (x3 + 6)], [], mkH E ro) Q else Q (some (.int 0)) (mkH E ro)) := by
  refine (r_icmp_eq rfl rfl rfl).trans ?_
  refine ite_congr rfl (fun h_0 => ?_) (fun h_0 => ?_)
  · refine (r_iinc (y := 6) rfl rfl rfl rfl rfl rfl).trans ?_
    refine (r_goto rfl rfl).trans ?_
    exact rfl
  · refine (r_iconst (v := 0) rfl rfl rfl).trans ?_
    exact r_zret rfl rfl rfl

theorem sg_L_law_361 {d : Nat} {E : pEv} {ro : Nat → Nat → Int32} {Q : Option Value → pH → Prop} (s_E : oE E) {x3 : Int32} {xs0 : Int32} (b0 : (¬ (x3 + 1) < 0 ∧ (x3 + 1).toNatClampNeg < E.1)) (b1 : (¬ (x3 + 2) < 0 ∧ (x3 + 2).toNatClampNeg < E.1)) : wG d 258 (361, [.ref 9, .ref 10, .ref 101, .int x3], [.int xs0], mkH E ro) Q = wX d 184 [.ref 101, .int (E.2.1 (x3 + 1).toNatClampNeg), .int (E.2.1 (x3 + 2).toNatClampNeg)] (mkH E ro) (fun v h' => wG d 258 (375, [.ref 9, .ref 10, .ref 101, .int x3], pv v [.int xs0], h') Q) := by
  refine (r_aload_n rfl rfl rfl).trans ?_
  refine (r_aload_n rfl rfl rfl).trans ?_
  refine (r_iload_n rfl rfl rfl).trans ?_
  refine (r_iconst (v := 1) rfl rfl rfl).trans ?_
  refine (r_iadd rfl rfl).trans ?_
  refine (r_ialdX rfl rfl b0).trans ?_
  refine (r_aload_n rfl rfl rfl).trans ?_
  refine (r_iload_n rfl rfl rfl).trans ?_
  refine (r_iconst (v := 2) rfl rfl rfl).trans ?_
  refine (r_iadd rfl rfl).trans ?_
  refine (r_ialdX rfl rfl b1).trans ?_
  exact r_inv (m := 184) (c := 10) rfl rfl rfl rfl rfl rfl rfl rfl

theorem sg_L_law_375 {d : Nat} {E : pEv} {ro : Nat → Nat → Int32} {Q : Option Value → pH → Prop} (s_E : oE E) {x3 : Int32} {xs0 : Int32} {xs1 : Int32} : wG d 258 (375, [.ref 9, .ref 10, .ref 101, .int x3], [.int xs1, .int xs0], mkH E ro) Q = (if xs0 = xs1 then wG d 258 (18, [.ref 9, .ref 10, .ref 101, .int (x3 + 6)], [], mkH E ro) Q else Q (some (.int 0)) (mkH E ro)) := by
  refine (r_icmp_eq rfl rfl rfl).trans ?_
  refine ite_congr rfl (fun h_0 => ?_) (fun h_0 => ?_)
  · refine (r_iinc (y := 6) rfl rfl rfl rfl rfl rfl).trans ?_
    refine (r_goto rfl rfl).trans ?_
    exact rfl
  · refine (r_iconst (v := 0) rfl rfl rfl).trans ?_
    exact r_zret rfl rfl rfl

theorem sg_L_law_394 {d : Nat} {E : pEv} {ro : Nat → Nat → Int32} {Q : Option Value → pH → Prop} (s_E : oE E) {x3 : Int32} {xs0 : Int32} (b0 : (¬ (x3 + 1) < 0 ∧ (x3 + 1).toNatClampNeg < E.1)) (b1 : (¬ (x3 + 2) < 0 ∧ (x3 + 2).toNatClampNeg < E.1)) : wG d 258 (394, [.ref 9, .ref 10, .ref 101, .int x3], [.int xs0], mkH E ro) Q = wX d 185 [.ref 101, .int (E.2.1 (x3 + 1).toNatClampNeg), .int (E.2.1 (x3 + 2).toNatClampNeg)] (mkH E ro) (fun v h' => wG d 258 (408, [.ref 9, .ref 10, .ref 101, .int x3], pv v [.int xs0], h') Q) := by
  refine (r_aload_n rfl rfl rfl).trans ?_
  refine (r_aload_n rfl rfl rfl).trans ?_
  refine (r_iload_n rfl rfl rfl).trans ?_
  refine (r_iconst (v := 1) rfl rfl rfl).trans ?_
  refine (r_iadd rfl rfl).trans ?_
  refine (r_ialdX rfl rfl b0).trans ?_
  refine (r_aload_n rfl rfl rfl).trans ?_
  refine (r_iload_n rfl rfl rfl).trans ?_
  refine (r_iconst (v := 2) rfl rfl rfl).trans ?_
  refine (r_iadd rfl rfl).trans ?_
  refine (r_ialdX rfl rfl b1).trans ?_
  exact r_inv (m := 185) (c := 10) rfl rfl rfl rfl rfl rfl rfl rfl

theorem sg_L_law_408 {d : Nat} {E : pEv} {ro : Nat → Nat → Int32} {Q : Option Value → pH → Prop} (s_E : oE E) {x3 : Int32} {xs0 : Int32} {xs1 : Int32} : wG d 258 (408, [.ref 9, .ref 10, .ref 101, .int x3], [.int xs1, .int xs0], mkH E ro) Q = (if xs0 = xs1 then wG d 258 (18, [.ref 9, .ref 10, .ref 101, .int (x3 + 6)], [], mkH E ro) Q else Q (some (.int 0)) (mkH E ro)) := by
  refine (r_icmp_eq rfl rfl rfl).trans ?_
  refine ite_congr rfl (fun h_0 => ?_) (fun h_0 => ?_)
  · refine (r_iinc (y := 6) rfl rfl rfl rfl rfl rfl).trans ?_
    refine (r_goto rfl rfl).trans ?_
    exact rfl
  · refine (r_iconst (v := 0) rfl rfl rfl).trans ?_
    exact r_zret rfl rfl rfl

theorem sg_L_law_432 {d : Nat} {E : pEv} {ro : Nat → Nat → Int32} {Q : Option Value → pH → Prop} (s_E : oE E) {x3 : Int32} {xs0 : Int32} (b0 : (¬ (x3 + 1) < 0 ∧ (x3 + 1).toNatClampNeg < E.1)) (b1 : (¬ (x3 + 2) < 0 ∧ (x3 + 2).toNatClampNeg < E.1)) (b2 : (¬ (x3 + 3) < 0 ∧ (x3 + 3).toNatClampNeg < E.1)) : wG d 258 (432, [.ref 9, .ref 10, .ref 101, .int x3], [.int xs0], mkH E ro) Q = wX d 186 [.ref 101, .int (E.2.1 (x3 + 1).toNatClampNeg), .int (E.2.1 (x3 + 2).toNatClampNeg), .int (E.2.1 (x3 + 3).toNatClampNeg)] (mkH E ro) (fun v h' => wG d 258 (451, [.ref 9, .ref 10, .ref 101, .int x3], pv v [.int xs0], h') Q) := by
  refine (r_aload_n rfl rfl rfl).trans ?_
  refine (r_aload_n rfl rfl rfl).trans ?_
  refine (r_iload_n rfl rfl rfl).trans ?_
  refine (r_iconst (v := 1) rfl rfl rfl).trans ?_
  refine (r_iadd rfl rfl).trans ?_
  refine (r_ialdX rfl rfl b0).trans ?_
  refine (r_aload_n rfl rfl rfl).trans ?_
  refine (r_iload_n rfl rfl rfl).trans ?_
  refine (r_iconst (v := 2) rfl rfl rfl).trans ?_
  refine (r_iadd rfl rfl).trans ?_
  refine (r_ialdX rfl rfl b1).trans ?_
  refine (r_aload_n rfl rfl rfl).trans ?_
  refine (r_iload_n rfl rfl rfl).trans ?_
  refine (r_iconst (v := 3) rfl rfl rfl).trans ?_
  refine (r_iadd rfl rfl).trans ?_
  refine (r_ialdX rfl rfl b2).trans ?_
  exact r_inv (m := 186) (c := 10) rfl rfl rfl rfl rfl rfl rfl rfl

theorem sg_L_law_451 {d : Nat} {E : pEv} {ro : Nat → Nat → Int32} {Q : Option Value → pH → Prop} (s_E : oE E) {x3 : Int32} {xs0 : Int32} {xs1 : Int32} : wG d 258 (451, [.ref 9, .ref 10, .ref 101, .int x3], [.int xs1, .int xs0], mkH E ro) Q = (if xs0 = xs1 then wG d 258 (18, [.ref 9, .ref 10, .ref 101, .int (x3 + 6)], [], mkH E ro) Q else Q (some (.int 0)) (mkH E ro)) := by
  refine (r_icmp_eq rfl rfl rfl).trans ?_
  refine ite_congr rfl (fun h_0 => ?_) (fun h_0 => ?_)
  · refine (r_iinc (y := 6) rfl rfl rfl rfl rfl rfl).trans ?_
    refine (r_goto rfl rfl).trans ?_
    exact rfl
  · refine (r_iconst (v := 0) rfl rfl rfl).trans ?_
    exact r_zret rfl rfl rfl

theorem sg_L_law_460 {d : Nat} {E : pEv} {ro : Nat → Nat → Int32} {Q : Option Value → pH → Prop} (s_E : oE E) {x3 : Int32} {xs0 : Int32} : wG d 258 (460, [.ref 9, .ref 10, .ref 101, .int x3], [.int xs0], mkH E ro) Q = wX d 187 [.ref 101] (mkH E ro) (fun v h' => wG d 258 (464, [.ref 9, .ref 10, .ref 101, .int x3], pv v [.int xs0], h') Q) := by
  refine (r_aload_n rfl rfl rfl).trans ?_
  exact r_inv (m := 187) (c := 10) rfl rfl rfl rfl rfl rfl rfl rfl

theorem sg_L_law_464 {d : Nat} {E : pEv} {ro : Nat → Nat → Int32} {Q : Option Value → pH → Prop} (s_E : oE E) {x3 : Int32} {xs0 : Int32} {xs1 : Int32} : wG d 258 (464, [.ref 9, .ref 10, .ref 101, .int x3], [.int xs1, .int xs0], mkH E ro) Q = (if xs0 = xs1 then wG d 258 (18, [.ref 9, .ref 10, .ref 101, .int (x3 + 6)], [], mkH E ro) Q else Q (some (.int 0)) (mkH E ro)) := by
  refine (r_icmp_eq rfl rfl rfl).trans ?_
  refine ite_congr rfl (fun h_0 => ?_) (fun h_0 => ?_)
  · refine (r_iinc (y := 6) rfl rfl rfl rfl rfl rfl).trans ?_
    refine (r_goto rfl rfl).trans ?_
    exact rfl
  · refine (r_iconst (v := 0) rfl rfl rfl).trans ?_
    exact r_zret rfl rfl rfl

theorem sg_L_law_478 {d : Nat} {E : pEv} {ro : Nat → Nat → Int32} {Q : Option Value → pH → Prop} (s_E : oE E) {x3 : Int32} {xs0 : Int32} (b0 : (¬ (x3 + 1) < 0 ∧ (x3 + 1).toNatClampNeg < E.1)) : wG d 258 (478, [.ref 9, .ref 10, .ref 101, .int x3], [.int xs0], mkH E ro) Q = wX d 196 [.ref 101, .int (E.2.1 (x3 + 1).toNatClampNeg)] (mkH E ro) (fun v h' => wG d 258 (487, [.ref 9, .ref 10, .ref 101, .int x3], pv v [.int xs0], h') Q) := by
  refine (r_aload_n rfl rfl rfl).trans ?_
  refine (r_aload_n rfl rfl rfl).trans ?_
  refine (r_iload_n rfl rfl rfl).trans ?_
  refine (r_iconst (v := 1) rfl rfl rfl).trans ?_
  refine (r_iadd rfl rfl).trans ?_
  refine (r_ialdX rfl rfl b0).trans ?_
  exact r_inv (m := 196) (c := 10) rfl rfl rfl rfl rfl rfl rfl rfl

theorem sg_L_law_487 {d : Nat} {E : pEv} {ro : Nat → Nat → Int32} {Q : Option Value → pH → Prop} (s_E : oE E) {x3 : Int32} {xs0 : Int32} {xs1 : Int32} : wG d 258 (487, [.ref 9, .ref 10, .ref 101, .int x3], [.int xs1, .int xs0], mkH E ro) Q = (if xs0 = xs1 then wG d 258 (18, [.ref 9, .ref 10, .ref 101, .int (x3 + 6)], [], mkH E ro) Q else Q (some (.int 0)) (mkH E ro)) := by
  refine (r_icmp_eq rfl rfl rfl).trans ?_
  refine ite_congr rfl (fun h_0 => ?_) (fun h_0 => ?_)
  · refine (r_iinc (y := 6) rfl rfl rfl rfl rfl rfl).trans ?_
    refine (r_goto rfl rfl).trans ?_
    exact rfl
  · refine (r_iconst (v := 0) rfl rfl rfl).trans ?_
    exact r_zret rfl rfl rfl

theorem sg_L_law_506 {d : Nat} {E : pEv} {ro : Nat → Nat → Int32} {Q : Option Value → pH → Prop} (s_E : oE E) {x3 : Int32} {xs0 : Int32} (b0 : (¬ (x3 + 1) < 0 ∧ (x3 + 1).toNatClampNeg < E.1)) (b1 : (¬ (x3 + 2) < 0 ∧ (x3 + 2).toNatClampNeg < E.1)) : wG d 258 (506, [.ref 9, .ref 10, .ref 101, .int x3], [.int xs0], mkH E ro) Q = wX d 198 [.ref 101, .int (E.2.1 (x3 + 1).toNatClampNeg), .int (E.2.1 (x3 + 2).toNatClampNeg)] (mkH E ro) (fun v h' => wG d 258 (520, [.ref 9, .ref 10, .ref 101, .int x3], pv v [.int xs0], h') Q) := by
  refine (r_aload_n rfl rfl rfl).trans ?_
  refine (r_aload_n rfl rfl rfl).trans ?_
  refine (r_iload_n rfl rfl rfl).trans ?_
  refine (r_iconst (v := 1) rfl rfl rfl).trans ?_
  refine (r_iadd rfl rfl).trans ?_
  refine (r_ialdX rfl rfl b0).trans ?_
  refine (r_aload_n rfl rfl rfl).trans ?_
  refine (r_iload_n rfl rfl rfl).trans ?_
  refine (r_iconst (v := 2) rfl rfl rfl).trans ?_
  refine (r_iadd rfl rfl).trans ?_
  refine (r_ialdX rfl rfl b1).trans ?_
  exact r_inv (m := 198) (c := 10) rfl rfl rfl rfl rfl rfl rfl rfl

theorem sg_L_law_520 {d : Nat} {E : pEv} {ro : Nat → Nat → Int32} {Q : Option Value → pH → Prop} (s_E : oE E) {x3 : Int32} {xs0 : Int32} {xs1 : Int32} : wG d 258 (520, [.ref 9, .ref 10, .ref 101, .int x3], [.int xs1, .int xs0], mkH E ro) Q = (if xs0 = xs1 then wG d 258 (18, [.ref 9, .ref 10, .ref 101, .int (x3 + 6)], [], mkH E ro) Q else Q (some (.int 0)) (mkH E ro)) := by
  refine (r_icmp_eq rfl rfl rfl).trans ?_
  refine ite_congr rfl (fun h_0 => ?_) (fun h_0 => ?_)
  · refine (r_iinc (y := 6) rfl rfl rfl rfl rfl rfl).trans ?_
    refine (r_goto rfl rfl).trans ?_
    exact rfl
  · refine (r_iconst (v := 0) rfl rfl rfl).trans ?_
    exact r_zret rfl rfl rfl

theorem sg_L_law_534 {d : Nat} {E : pEv} {ro : Nat → Nat → Int32} {Q : Option Value → pH → Prop} (s_E : oE E) {x3 : Int32} {xs0 : Int32} (b0 : (¬ (x3 + 1) < 0 ∧ (x3 + 1).toNatClampNeg < E.1)) : wG d 258 (534, [.ref 9, .ref 10, .ref 101, .int x3], [.int xs0], mkH E ro) Q = wX d 199 [.ref 101, .int (E.2.1 (x3 + 1).toNatClampNeg)] (mkH E ro) (fun v h' => wG d 258 (543, [.ref 9, .ref 10, .ref 101, .int x3], pv v [.int xs0], h') Q) := by
  refine (r_aload_n rfl rfl rfl).trans ?_
  refine (r_aload_n rfl rfl rfl).trans ?_
  refine (r_iload_n rfl rfl rfl).trans ?_
  refine (r_iconst (v := 1) rfl rfl rfl).trans ?_
  refine (r_iadd rfl rfl).trans ?_
  refine (r_ialdX rfl rfl b0).trans ?_
  exact r_inv (m := 199) (c := 10) rfl rfl rfl rfl rfl rfl rfl rfl

theorem sg_L_law_543 {d : Nat} {E : pEv} {ro : Nat → Nat → Int32} {Q : Option Value → pH → Prop} (s_E : oE E) {x3 : Int32} {xs0 : Int32} {xs1 : Int32} : wG d 258 (543, [.ref 9, .ref 10, .ref 101, .int x3], [.int xs1, .int xs0], mkH E ro) Q = (if xs0 = xs1 then wG d 258 (18, [.ref 9, .ref 10, .ref 101, .int (x3 + 6)], [], mkH E ro) Q else Q (some (.int 0)) (mkH E ro)) := by
  refine (r_icmp_eq rfl rfl rfl).trans ?_
  refine ite_congr rfl (fun h_0 => ?_) (fun h_0 => ?_)
  · refine (r_iinc (y := 6) rfl rfl rfl rfl rfl rfl).trans ?_
    refine (r_goto rfl rfl).trans ?_
    exact rfl
  · refine (r_iconst (v := 0) rfl rfl rfl).trans ?_
    exact r_zret rfl rfl rfl

theorem sg_L_law_557 {d : Nat} {E : pEv} {ro : Nat → Nat → Int32} {Q : Option Value → pH → Prop} (s_E : oE E) {x3 : Int32} {xs0 : Int32} (b0 : (¬ (x3 + 1) < 0 ∧ (x3 + 1).toNatClampNeg < E.1)) : wG d 258 (557, [.ref 9, .ref 10, .ref 101, .int x3], [.int xs0], mkH E ro) Q = wX d 201 [.ref 101, .int (E.2.1 (x3 + 1).toNatClampNeg)] (mkH E ro) (fun v h' => wG d 258 (566, [.ref 9, .ref 10, .ref 101, .int x3], pv v [.int xs0], h') Q) := by
  refine (r_aload_n rfl rfl rfl).trans ?_
  refine (r_aload_n rfl rfl rfl).trans ?_
  refine (r_iload_n rfl rfl rfl).trans ?_
  refine (r_iconst (v := 1) rfl rfl rfl).trans ?_
  refine (r_iadd rfl rfl).trans ?_
  refine (r_ialdX rfl rfl b0).trans ?_
  exact r_inv (m := 201) (c := 10) rfl rfl rfl rfl rfl rfl rfl rfl

theorem sg_L_law_566 {d : Nat} {E : pEv} {ro : Nat → Nat → Int32} {Q : Option Value → pH → Prop} (s_E : oE E) {x3 : Int32} {xs0 : Int32} {xs1 : Int32} : wG d 258 (566, [.ref 9, .ref 10, .ref 101, .int x3], [.int xs1, .int xs0], mkH E ro) Q = (if xs0 = xs1 then wG d 258 (18, [.ref 9, .ref 10, .ref 101, .int (x3 + 6)], [], mkH E ro) Q else Q (some (.int 0)) (mkH E ro)) := by
  refine (r_icmp_eq rfl rfl rfl).trans ?_
  refine ite_congr rfl (fun h_0 => ?_) (fun h_0 => ?_)
  · refine (r_iinc (y := 6) rfl rfl rfl rfl rfl rfl).trans ?_
    refine (r_goto rfl rfl).trans ?_
    exact rfl
  · refine (r_iconst (v := 0) rfl rfl rfl).trans ?_
    exact r_zret rfl rfl rfl

theorem sg_L_law_580 {d : Nat} {E : pEv} {ro : Nat → Nat → Int32} {Q : Option Value → pH → Prop} (s_E : oE E) {x3 : Int32} {xs0 : Int32} (b0 : (¬ (x3 + 1) < 0 ∧ (x3 + 1).toNatClampNeg < E.1)) : wG d 258 (580, [.ref 9, .ref 10, .ref 101, .int x3], [.int xs0], mkH E ro) Q = wX d 202 [.ref 101, .int (E.2.1 (x3 + 1).toNatClampNeg)] (mkH E ro) (fun v h' => wG d 258 (589, [.ref 9, .ref 10, .ref 101, .int x3], pv v [.int xs0], h') Q) := by
  refine (r_aload_n rfl rfl rfl).trans ?_
  refine (r_aload_n rfl rfl rfl).trans ?_
  refine (r_iload_n rfl rfl rfl).trans ?_
  refine (r_iconst (v := 1) rfl rfl rfl).trans ?_
  refine (r_iadd rfl rfl).trans ?_
  refine (r_ialdX rfl rfl b0).trans ?_
  exact r_inv (m := 202) (c := 10) rfl rfl rfl rfl rfl rfl rfl rfl

theorem sg_L_law_589 {d : Nat} {E : pEv} {ro : Nat → Nat → Int32} {Q : Option Value → pH → Prop} (s_E : oE E) {x3 : Int32} {xs0 : Int32} {xs1 : Int32} : wG d 258 (589, [.ref 9, .ref 10, .ref 101, .int x3], [.int xs1, .int xs0], mkH E ro) Q = (if xs0 = xs1 then wG d 258 (18, [.ref 9, .ref 10, .ref 101, .int (x3 + 6)], [], mkH E ro) Q else Q (some (.int 0)) (mkH E ro)) := by
  refine (r_icmp_eq rfl rfl rfl).trans ?_
  refine ite_congr rfl (fun h_0 => ?_) (fun h_0 => ?_)
  · refine (r_iinc (y := 6) rfl rfl rfl rfl rfl rfl).trans ?_
    refine (r_goto rfl rfl).trans ?_
    exact rfl
  · refine (r_iconst (v := 0) rfl rfl rfl).trans ?_
    exact r_zret rfl rfl rfl

theorem sg_L_law_598 {d : Nat} {E : pEv} {ro : Nat → Nat → Int32} {Q : Option Value → pH → Prop} (s_E : oE E) {x3 : Int32} {xs0 : Int32} : wG d 258 (598, [.ref 9, .ref 10, .ref 101, .int x3], [.int xs0], mkH E ro) Q = wX d 203 [.ref 101] (mkH E ro) (fun v h' => wG d 258 (602, [.ref 9, .ref 10, .ref 101, .int x3], pv v [.int xs0], h') Q) := by
  refine (r_aload_n rfl rfl rfl).trans ?_
  exact r_inv (m := 203) (c := 10) rfl rfl rfl rfl rfl rfl rfl rfl

theorem sg_L_law_602 {d : Nat} {E : pEv} {ro : Nat → Nat → Int32} {Q : Option Value → pH → Prop} (s_E : oE E) {x3 : Int32} {xs0 : Int32} {xs1 : Int32} : wG d 258 (602, [.ref 9, .ref 10, .ref 101, .int x3], [.int xs1, .int xs0], mkH E ro) Q = (if xs0 = xs1 then wG d 258 (18, [.ref 9, .ref 10, .ref 101, .int (x3 + 6)], [], mkH E ro) Q else Q (some (.int 0)) (mkH E ro)) := by
  refine (r_icmp_eq rfl rfl rfl).trans ?_
  refine ite_congr rfl (fun h_0 => ?_) (fun h_0 => ?_)
  · refine (r_iinc (y := 6) rfl rfl rfl rfl rfl rfl).trans ?_
    refine (r_goto rfl rfl).trans ?_
    exact rfl
  · refine (r_iconst (v := 0) rfl rfl rfl).trans ?_
    exact r_zret rfl rfl rfl

theorem sg_L_law_611 {d : Nat} {E : pEv} {ro : Nat → Nat → Int32} {Q : Option Value → pH → Prop} (s_E : oE E) {x3 : Int32} {xs0 : Int32} : wG d 258 (611, [.ref 9, .ref 10, .ref 101, .int x3], [.int xs0], mkH E ro) Q = wX d 204 [.ref 101] (mkH E ro) (fun v h' => wG d 258 (615, [.ref 9, .ref 10, .ref 101, .int x3], pv v [.int xs0], h') Q) := by
  refine (r_aload_n rfl rfl rfl).trans ?_
  exact r_inv (m := 204) (c := 10) rfl rfl rfl rfl rfl rfl rfl rfl

theorem sg_L_law_615 {d : Nat} {E : pEv} {ro : Nat → Nat → Int32} {Q : Option Value → pH → Prop} (s_E : oE E) {x3 : Int32} {xs0 : Int32} {xs1 : Int32} : wG d 258 (615, [.ref 9, .ref 10, .ref 101, .int x3], [.int xs1, .int xs0], mkH E ro) Q = (if xs0 = xs1 then wG d 258 (18, [.ref 9, .ref 10, .ref 101, .int (x3 + 6)], [], mkH E ro) Q else Q (some (.int 0)) (mkH E ro)) := by
  refine (r_icmp_eq rfl rfl rfl).trans ?_
  refine ite_congr rfl (fun h_0 => ?_) (fun h_0 => ?_)
  · refine (r_iinc (y := 6) rfl rfl rfl rfl rfl rfl).trans ?_
    refine (r_goto rfl rfl).trans ?_
    exact rfl
  · refine (r_iconst (v := 0) rfl rfl rfl).trans ?_
    exact r_zret rfl rfl rfl

theorem sg_L_law_649 {d : Nat} {E : pEv} {ro : Nat → Nat → Int32} {Q : Option Value → pH → Prop} (s_E : oE E) {x3 : Int32} {xs0 : Int32} (b0 : (¬ (x3 + 1) < 0 ∧ (x3 + 1).toNatClampNeg < E.1)) (b1 : (¬ (x3 + 2) < 0 ∧ (x3 + 2).toNatClampNeg < E.1)) (b2 : (¬ (x3 + 3) < 0 ∧ (x3 + 3).toNatClampNeg < E.1)) : wG d 258 (649, [.ref 9, .ref 10, .ref 101, .int x3], [.int xs0], mkH E ro) Q = wX d 171 [.ref 101, .long ((((E.2.1 (x3 + 1).toNatClampNeg).toInt64) <<< ((32 : Int32).toInt64 &&& 63)) ||| (((E.2.1 (x3 + 2).toNatClampNeg).toInt64) &&& 4294967295)), .int (E.2.1 (x3 + 3).toNatClampNeg)] (mkH E ro) (fun v h' => wG d 258 (678, [.ref 9, .ref 10, .ref 101, .int x3], pv v [.int xs0], h') Q) := by
  refine (r_aload_n rfl rfl rfl).trans ?_
  refine (r_aload_n rfl rfl rfl).trans ?_
  refine (r_iload_n rfl rfl rfl).trans ?_
  refine (r_iconst (v := 1) rfl rfl rfl).trans ?_
  refine (r_iadd rfl rfl).trans ?_
  refine (r_ialdX rfl rfl b0).trans ?_
  refine (r_i2l rfl rfl).trans ?_
  refine (r_bipush (v := 32) rfl rfl rfl).trans ?_
  refine (r_lshl rfl rfl).trans ?_
  refine (r_aload_n rfl rfl rfl).trans ?_
  refine (r_iload_n rfl rfl rfl).trans ?_
  refine (r_iconst (v := 2) rfl rfl rfl).trans ?_
  refine (r_iadd rfl rfl).trans ?_
  refine (r_ialdX rfl rfl b1).trans ?_
  refine (r_i2l rfl rfl).trans ?_
  refine (r_ldc2_w (w := 4294967295) rfl rfl rfl).trans ?_
  refine (r_land rfl rfl).trans ?_
  refine (r_lor rfl rfl).trans ?_
  refine (r_aload_n rfl rfl rfl).trans ?_
  refine (r_iload_n rfl rfl rfl).trans ?_
  refine (r_iconst (v := 3) rfl rfl rfl).trans ?_
  refine (r_iadd rfl rfl).trans ?_
  refine (r_ialdX rfl rfl b2).trans ?_
  exact r_inv (m := 171) (c := 10) rfl rfl rfl rfl rfl rfl rfl rfl

theorem sg_L_law_678 {d : Nat} {E : pEv} {ro : Nat → Nat → Int32} {Q : Option Value → pH → Prop} (s_E : oE E) {x3 : Int32} {xs0 : Int32} {xs1 : Int32} : wG d 258 (678, [.ref 9, .ref 10, .ref 101, .int x3], [.int xs1, .int xs0], mkH E ro) Q = (if xs0 = xs1 then wG d 258 (18, [.ref 9, .ref 10, .ref 101, .int (x3 + 6)], [], mkH E ro) Q else Q (some (.int 0)) (mkH E ro)) := by
  refine (r_icmp_eq rfl rfl rfl).trans ?_
  refine ite_congr rfl (fun h_0 => ?_) (fun h_0 => ?_)
  · refine (r_iinc (y := 6) rfl rfl rfl rfl rfl rfl).trans ?_
    refine (r_goto rfl rfl).trans ?_
    exact rfl
  · refine (r_iconst (v := 0) rfl rfl rfl).trans ?_
    exact r_zret rfl rfl rfl

theorem sg_L_law_692 {d : Nat} {E : pEv} {ro : Nat → Nat → Int32} {Q : Option Value → pH → Prop} (s_E : oE E) {x3 : Int32} {xs0 : Int32} (b0 : (¬ (x3 + 1) < 0 ∧ (x3 + 1).toNatClampNeg < E.1)) : wG d 258 (692, [.ref 9, .ref 10, .ref 101, .int x3], [.int xs0], mkH E ro) Q = wX d 172 [.ref 101, .int (E.2.1 (x3 + 1).toNatClampNeg)] (mkH E ro) (fun v h' => wG d 258 (701, [.ref 9, .ref 10, .ref 101, .int x3], pv v [.int xs0], h') Q) := by
  refine (r_aload_n rfl rfl rfl).trans ?_
  refine (r_aload_n rfl rfl rfl).trans ?_
  refine (r_iload_n rfl rfl rfl).trans ?_
  refine (r_iconst (v := 1) rfl rfl rfl).trans ?_
  refine (r_iadd rfl rfl).trans ?_
  refine (r_ialdX rfl rfl b0).trans ?_
  exact r_inv (m := 172) (c := 10) rfl rfl rfl rfl rfl rfl rfl rfl

theorem sg_L_law_701 {d : Nat} {E : pEv} {ro : Nat → Nat → Int32} {Q : Option Value → pH → Prop} (s_E : oE E) {x3 : Int32} {xs0 : Int32} {xs1 : Int32} : wG d 258 (701, [.ref 9, .ref 10, .ref 101, .int x3], [.int xs1, .int xs0], mkH E ro) Q = (if xs0 = xs1 then wG d 258 (18, [.ref 9, .ref 10, .ref 101, .int (x3 + 6)], [], mkH E ro) Q else Q (some (.int 0)) (mkH E ro)) := by
  refine (r_icmp_eq rfl rfl rfl).trans ?_
  refine ite_congr rfl (fun h_0 => ?_) (fun h_0 => ?_)
  · refine (r_iinc (y := 6) rfl rfl rfl rfl rfl rfl).trans ?_
    refine (r_goto rfl rfl).trans ?_
    exact rfl
  · refine (r_iconst (v := 0) rfl rfl rfl).trans ?_
    exact r_zret rfl rfl rfl

theorem sg_L_law_730 {d : Nat} {E : pEv} {ro : Nat → Nat → Int32} {Q : Option Value → pH → Prop} (s_E : oE E) {x3 : Int32} {xs0 : Int32} (b0 : (¬ (x3 + 1) < 0 ∧ (x3 + 1).toNatClampNeg < E.1)) (b1 : (¬ (x3 + 2) < 0 ∧ (x3 + 2).toNatClampNeg < E.1)) (b2 : (¬ (x3 + 3) < 0 ∧ (x3 + 3).toNatClampNeg < E.1)) (b3 : (¬ (x3 + 4) < 0 ∧ (x3 + 4).toNatClampNeg < E.1)) : wG d 258 (730, [.ref 9, .ref 10, .ref 101, .int x3], [.int xs0], mkH E ro) Q = wX d 174 [.ref 101, .int (E.2.1 (x3 + 1).toNatClampNeg), .int (E.2.1 (x3 + 2).toNatClampNeg), .int (E.2.1 (x3 + 3).toNatClampNeg), .int (E.2.1 (x3 + 4).toNatClampNeg)] (mkH E ro) (fun v h' => wG d 258 (754, [.ref 9, .ref 10, .ref 101, .int x3], pv v [.int xs0], h') Q) := by
  refine (r_aload_n rfl rfl rfl).trans ?_
  refine (r_aload_n rfl rfl rfl).trans ?_
  refine (r_iload_n rfl rfl rfl).trans ?_
  refine (r_iconst (v := 1) rfl rfl rfl).trans ?_
  refine (r_iadd rfl rfl).trans ?_
  refine (r_ialdX rfl rfl b0).trans ?_
  refine (r_aload_n rfl rfl rfl).trans ?_
  refine (r_iload_n rfl rfl rfl).trans ?_
  refine (r_iconst (v := 2) rfl rfl rfl).trans ?_
  refine (r_iadd rfl rfl).trans ?_
  refine (r_ialdX rfl rfl b1).trans ?_
  refine (r_aload_n rfl rfl rfl).trans ?_
  refine (r_iload_n rfl rfl rfl).trans ?_
  refine (r_iconst (v := 3) rfl rfl rfl).trans ?_
  refine (r_iadd rfl rfl).trans ?_
  refine (r_ialdX rfl rfl b2).trans ?_
  refine (r_aload_n rfl rfl rfl).trans ?_
  refine (r_iload_n rfl rfl rfl).trans ?_
  refine (r_iconst (v := 4) rfl rfl rfl).trans ?_
  refine (r_iadd rfl rfl).trans ?_
  refine (r_ialdX rfl rfl b3).trans ?_
  exact r_inv (m := 174) (c := 10) rfl rfl rfl rfl rfl rfl rfl rfl

theorem sg_L_law_754 {d : Nat} {E : pEv} {ro : Nat → Nat → Int32} {Q : Option Value → pH → Prop} (s_E : oE E) {x3 : Int32} {xs0 : Int32} {xs1 : Int32} : wG d 258 (754, [.ref 9, .ref 10, .ref 101, .int x3], [.int xs1, .int xs0], mkH E ro) Q = (if xs0 = xs1 then wG d 258 (18, [.ref 9, .ref 10, .ref 101, .int (x3 + 6)], [], mkH E ro) Q else Q (some (.int 0)) (mkH E ro)) := by
  refine (r_icmp_eq rfl rfl rfl).trans ?_
  refine ite_congr rfl (fun h_0 => ?_) (fun h_0 => ?_)
  · refine (r_iinc (y := 6) rfl rfl rfl rfl rfl rfl).trans ?_
    refine (r_goto rfl rfl).trans ?_
    exact rfl
  · refine (r_iconst (v := 0) rfl rfl rfl).trans ?_
    exact r_zret rfl rfl rfl

theorem sg_L_law_768 {d : Nat} {E : pEv} {ro : Nat → Nat → Int32} {Q : Option Value → pH → Prop} (s_E : oE E) {x3 : Int32} {xs0 : Int32} (b0 : (¬ (x3 + 1) < 0 ∧ (x3 + 1).toNatClampNeg < E.1)) : wG d 258 (768, [.ref 9, .ref 10, .ref 101, .int x3], [.int xs0], mkH E ro) Q = wX d 208 [.ref 101, .int (E.2.1 (x3 + 1).toNatClampNeg)] (mkH E ro) (fun v h' => wG d 258 (777, [.ref 9, .ref 10, .ref 101, .int x3], pv v [.int xs0], h') Q) := by
  refine (r_aload_n rfl rfl rfl).trans ?_
  refine (r_aload_n rfl rfl rfl).trans ?_
  refine (r_iload_n rfl rfl rfl).trans ?_
  refine (r_iconst (v := 1) rfl rfl rfl).trans ?_
  refine (r_iadd rfl rfl).trans ?_
  refine (r_ialdX rfl rfl b0).trans ?_
  exact r_inv (m := 208) (c := 10) rfl rfl rfl rfl rfl rfl rfl rfl

theorem sg_L_law_777 {d : Nat} {E : pEv} {ro : Nat → Nat → Int32} {Q : Option Value → pH → Prop} (s_E : oE E) {x3 : Int32} {xs0 : Int32} {xs1 : Int32} : wG d 258 (777, [.ref 9, .ref 10, .ref 101, .int x3], [.int xs1, .int xs0], mkH E ro) Q = (if xs0 = xs1 then wG d 258 (18, [.ref 9, .ref 10, .ref 101, .int (x3 + 6)], [], mkH E ro) Q else Q (some (.int 0)) (mkH E ro)) := by
  refine (r_icmp_eq rfl rfl rfl).trans ?_
  refine ite_congr rfl (fun h_0 => ?_) (fun h_0 => ?_)
  · refine (r_iinc (y := 6) rfl rfl rfl rfl rfl rfl).trans ?_
    refine (r_goto rfl rfl).trans ?_
    exact rfl
  · refine (r_iconst (v := 0) rfl rfl rfl).trans ?_
    exact r_zret rfl rfl rfl

theorem sg_L_law_791 {d : Nat} {E : pEv} {ro : Nat → Nat → Int32} {Q : Option Value → pH → Prop} (s_E : oE E) {x3 : Int32} {xs0 : Int32} (b0 : (¬ (x3 + 1) < 0 ∧ (x3 + 1).toNatClampNeg < E.1)) : wG d 258 (791, [.ref 9, .ref 10, .ref 101, .int x3], [.int xs0], mkH E ro) Q = wX d 209 [.ref 101, .int (E.2.1 (x3 + 1).toNatClampNeg)] (mkH E ro) (fun v h' => wG d 258 (800, [.ref 9, .ref 10, .ref 101, .int x3], pv v [.int xs0], h') Q) := by
  refine (r_aload_n rfl rfl rfl).trans ?_
  refine (r_aload_n rfl rfl rfl).trans ?_
  refine (r_iload_n rfl rfl rfl).trans ?_
  refine (r_iconst (v := 1) rfl rfl rfl).trans ?_
  refine (r_iadd rfl rfl).trans ?_
  refine (r_ialdX rfl rfl b0).trans ?_
  exact r_inv (m := 209) (c := 10) rfl rfl rfl rfl rfl rfl rfl rfl

theorem sg_L_law_800 {d : Nat} {E : pEv} {ro : Nat → Nat → Int32} {Q : Option Value → pH → Prop} (s_E : oE E) {x3 : Int32} {xs0 : Int32} {xs1 : Int32} : wG d 258 (800, [.ref 9, .ref 10, .ref 101, .int x3], [.int xs1, .int xs0], mkH E ro) Q = (if xs0 = xs1 then wG d 258 (18, [.ref 9, .ref 10, .ref 101, .int (x3 + 6)], [], mkH E ro) Q else Q (some (.int 0)) (mkH E ro)) := by
  refine (r_icmp_eq rfl rfl rfl).trans ?_
  refine ite_congr rfl (fun h_0 => ?_) (fun h_0 => ?_)
  · refine (r_iinc (y := 6) rfl rfl rfl rfl rfl rfl).trans ?_
    refine (r_goto rfl rfl).trans ?_
    exact rfl
  · refine (r_iconst (v := 0) rfl rfl rfl).trans ?_
    exact r_zret rfl rfl rfl

theorem sg_L_law_814 {d : Nat} {E : pEv} {ro : Nat → Nat → Int32} {Q : Option Value → pH → Prop} (s_E : oE E) {x3 : Int32} {xs0 : Int32} (b0 : (¬ (x3 + 1) < 0 ∧ (x3 + 1).toNatClampNeg < E.1)) : wG d 258 (814, [.ref 9, .ref 10, .ref 101, .int x3], [.int xs0], mkH E ro) Q = wX d 210 [.ref 101, .int (E.2.1 (x3 + 1).toNatClampNeg)] (mkH E ro) (fun v h' => wG d 258 (823, [.ref 9, .ref 10, .ref 101, .int x3], pv v [.int xs0], h') Q) := by
  refine (r_aload_n rfl rfl rfl).trans ?_
  refine (r_aload_n rfl rfl rfl).trans ?_
  refine (r_iload_n rfl rfl rfl).trans ?_
  refine (r_iconst (v := 1) rfl rfl rfl).trans ?_
  refine (r_iadd rfl rfl).trans ?_
  refine (r_ialdX rfl rfl b0).trans ?_
  exact r_inv (m := 210) (c := 10) rfl rfl rfl rfl rfl rfl rfl rfl

theorem sg_L_law_823 {d : Nat} {E : pEv} {ro : Nat → Nat → Int32} {Q : Option Value → pH → Prop} (s_E : oE E) {x3 : Int32} {xs0 : Int32} {xs1 : Int32} : wG d 258 (823, [.ref 9, .ref 10, .ref 101, .int x3], [.int xs1, .int xs0], mkH E ro) Q = (if xs0 = xs1 then wG d 258 (18, [.ref 9, .ref 10, .ref 101, .int (x3 + 6)], [], mkH E ro) Q else Q (some (.int 0)) (mkH E ro)) := by
  refine (r_icmp_eq rfl rfl rfl).trans ?_
  refine ite_congr rfl (fun h_0 => ?_) (fun h_0 => ?_)
  · refine (r_iinc (y := 6) rfl rfl rfl rfl rfl rfl).trans ?_
    refine (r_goto rfl rfl).trans ?_
    exact rfl
  · refine (r_iconst (v := 0) rfl rfl rfl).trans ?_
    exact r_zret rfl rfl rfl

theorem sg_L_law_847 {d : Nat} {E : pEv} {ro : Nat → Nat → Int32} {Q : Option Value → pH → Prop} (s_E : oE E) {x3 : Int32} {xs0 : Int32} (b0 : (¬ (x3 + 1) < 0 ∧ (x3 + 1).toNatClampNeg < E.1)) (b1 : (¬ (x3 + 2) < 0 ∧ (x3 + 2).toNatClampNeg < E.1)) (b2 : (¬ (x3 + 3) < 0 ∧ (x3 + 3).toNatClampNeg < E.1)) : wG d 258 (847, [.ref 9, .ref 10, .ref 101, .int x3], [.int xs0], mkH E ro) Q = wX d 215 [.ref 101, .int (E.2.1 (x3 + 1).toNatClampNeg), .int (E.2.1 (x3 + 2).toNatClampNeg), .int (E.2.1 (x3 + 3).toNatClampNeg)] (mkH E ro) (fun v h' => wG d 258 (866, [.ref 9, .ref 10, .ref 101, .int x3], pv v [.int xs0], h') Q) := by
  refine (r_aload_n rfl rfl rfl).trans ?_
  refine (r_aload_n rfl rfl rfl).trans ?_
  refine (r_iload_n rfl rfl rfl).trans ?_
  refine (r_iconst (v := 1) rfl rfl rfl).trans ?_
  refine (r_iadd rfl rfl).trans ?_
  refine (r_ialdX rfl rfl b0).trans ?_
  refine (r_aload_n rfl rfl rfl).trans ?_
  refine (r_iload_n rfl rfl rfl).trans ?_
  refine (r_iconst (v := 2) rfl rfl rfl).trans ?_
  refine (r_iadd rfl rfl).trans ?_
  refine (r_ialdX rfl rfl b1).trans ?_
  refine (r_aload_n rfl rfl rfl).trans ?_
  refine (r_iload_n rfl rfl rfl).trans ?_
  refine (r_iconst (v := 3) rfl rfl rfl).trans ?_
  refine (r_iadd rfl rfl).trans ?_
  refine (r_ialdX rfl rfl b2).trans ?_
  exact r_inv (m := 215) (c := 10) rfl rfl rfl rfl rfl rfl rfl rfl

theorem sg_L_law_866 {d : Nat} {E : pEv} {ro : Nat → Nat → Int32} {Q : Option Value → pH → Prop} (s_E : oE E) {x3 : Int32} {xs0 : Int32} {xs1 : Int32} : wG d 258 (866, [.ref 9, .ref 10, .ref 101, .int x3], [.int xs1, .int xs0], mkH E ro) Q = (if xs0 = xs1 then wG d 258 (18, [.ref 9, .ref 10, .ref 101, .int (x3 + 6)], [], mkH E ro) Q else Q (some (.int 0)) (mkH E ro)) := by
  refine (r_icmp_eq rfl rfl rfl).trans ?_
  refine ite_congr rfl (fun h_0 => ?_) (fun h_0 => ?_)
  · refine (r_iinc (y := 6) rfl rfl rfl rfl rfl rfl).trans ?_
    refine (r_goto rfl rfl).trans ?_
    exact rfl
  · refine (r_iconst (v := 0) rfl rfl rfl).trans ?_
    exact r_zret rfl rfl rfl

theorem sg_L_law_880 {d : Nat} {E : pEv} {ro : Nat → Nat → Int32} {Q : Option Value → pH → Prop} (s_E : oE E) {x3 : Int32} {xs0 : Int32} (b0 : (¬ (x3 + 1) < 0 ∧ (x3 + 1).toNatClampNeg < E.1)) : wG d 258 (880, [.ref 9, .ref 10, .ref 101, .int x3], [.int xs0], mkH E ro) Q = wX d 217 [.ref 101, .int (E.2.1 (x3 + 1).toNatClampNeg)] (mkH E ro) (fun v h' => wG d 258 (889, [.ref 9, .ref 10, .ref 101, .int x3], pv v [.int xs0], h') Q) := by
  refine (r_aload_n rfl rfl rfl).trans ?_
  refine (r_aload_n rfl rfl rfl).trans ?_
  refine (r_iload_n rfl rfl rfl).trans ?_
  refine (r_iconst (v := 1) rfl rfl rfl).trans ?_
  refine (r_iadd rfl rfl).trans ?_
  refine (r_ialdX rfl rfl b0).trans ?_
  exact r_inv (m := 217) (c := 10) rfl rfl rfl rfl rfl rfl rfl rfl

theorem sg_L_law_889 {d : Nat} {E : pEv} {ro : Nat → Nat → Int32} {Q : Option Value → pH → Prop} (s_E : oE E) {x3 : Int32} {xs0 : Int32} {xs1 : Int32} : wG d 258 (889, [.ref 9, .ref 10, .ref 101, .int x3], [.int xs1, .int xs0], mkH E ro) Q = (if xs0 = xs1 then wG d 258 (18, [.ref 9, .ref 10, .ref 101, .int (x3 + 6)], [], mkH E ro) Q else Q (some (.int 0)) (mkH E ro)) := by
  refine (r_icmp_eq rfl rfl rfl).trans ?_
  refine ite_congr rfl (fun h_0 => ?_) (fun h_0 => ?_)
  · refine (r_iinc (y := 6) rfl rfl rfl rfl rfl rfl).trans ?_
    refine (r_goto rfl rfl).trans ?_
    exact rfl
  · refine (r_iconst (v := 0) rfl rfl rfl).trans ?_
    exact r_zret rfl rfl rfl

theorem sg_L_law_898 {d : Nat} {E : pEv} {ro : Nat → Nat → Int32} {Q : Option Value → pH → Prop} (s_E : oE E) {x3 : Int32} {xs0 : Int32} : wG d 258 (898, [.ref 9, .ref 10, .ref 101, .int x3], [.int xs0], mkH E ro) Q = wX d 218 [.ref 101] (mkH E ro) (fun v h' => wG d 258 (902, [.ref 9, .ref 10, .ref 101, .int x3], pv v [.int xs0], h') Q) := by
  refine (r_aload_n rfl rfl rfl).trans ?_
  exact r_inv (m := 218) (c := 10) rfl rfl rfl rfl rfl rfl rfl rfl

theorem sg_L_law_902 {d : Nat} {E : pEv} {ro : Nat → Nat → Int32} {Q : Option Value → pH → Prop} (s_E : oE E) {x3 : Int32} {xs0 : Int32} {xs1 : Int32} : wG d 258 (902, [.ref 9, .ref 10, .ref 101, .int x3], [.int xs1, .int xs0], mkH E ro) Q = (if xs0 = xs1 then wG d 258 (18, [.ref 9, .ref 10, .ref 101, .int (x3 + 6)], [], mkH E ro) Q else Q (some (.int 0)) (mkH E ro)) := by
  refine (r_icmp_eq rfl rfl rfl).trans ?_
  refine ite_congr rfl (fun h_0 => ?_) (fun h_0 => ?_)
  · refine (r_iinc (y := 6) rfl rfl rfl rfl rfl rfl).trans ?_
    refine (r_goto rfl rfl).trans ?_
    exact rfl
  · refine (r_iconst (v := 0) rfl rfl rfl).trans ?_
    exact r_zret rfl rfl rfl

theorem sg_L_law_921 {d : Nat} {E : pEv} {ro : Nat → Nat → Int32} {Q : Option Value → pH → Prop} (s_E : oE E) {x3 : Int32} {xs0 : Int32} (b0 : (¬ (x3 + 1) < 0 ∧ (x3 + 1).toNatClampNeg < E.1)) (b1 : (¬ (x3 + 2) < 0 ∧ (x3 + 2).toNatClampNeg < E.1)) : wG d 258 (921, [.ref 9, .ref 10, .ref 101, .int x3], [.int xs0], mkH E ro) Q = wX d 219 [.ref 101, .int (E.2.1 (x3 + 1).toNatClampNeg), .int (E.2.1 (x3 + 2).toNatClampNeg)] (mkH E ro) (fun v h' => wG d 258 (935, [.ref 9, .ref 10, .ref 101, .int x3], pv v [.int xs0], h') Q) := by
  refine (r_aload_n rfl rfl rfl).trans ?_
  refine (r_aload_n rfl rfl rfl).trans ?_
  refine (r_iload_n rfl rfl rfl).trans ?_
  refine (r_iconst (v := 1) rfl rfl rfl).trans ?_
  refine (r_iadd rfl rfl).trans ?_
  refine (r_ialdX rfl rfl b0).trans ?_
  refine (r_aload_n rfl rfl rfl).trans ?_
  refine (r_iload_n rfl rfl rfl).trans ?_
  refine (r_iconst (v := 2) rfl rfl rfl).trans ?_
  refine (r_iadd rfl rfl).trans ?_
  refine (r_ialdX rfl rfl b1).trans ?_
  exact r_inv (m := 219) (c := 10) rfl rfl rfl rfl rfl rfl rfl rfl

theorem sg_L_law_935 {d : Nat} {E : pEv} {ro : Nat → Nat → Int32} {Q : Option Value → pH → Prop} (s_E : oE E) {x3 : Int32} {xs0 : Int32} {xs1 : Int32} : wG d 258 (935, [.ref 9, .ref 10, .ref 101, .int x3], [.int xs1, .int xs0], mkH E ro) Q = (if xs0 = xs1 then wG d 258 (18, [.ref 9, .ref 10, .ref 101, .int (x3 + 6)], [], mkH E ro) Q else Q (some (.int 0)) (mkH E ro)) := by
  refine (r_icmp_eq rfl rfl rfl).trans ?_
  refine ite_congr rfl (fun h_0 => ?_) (fun h_0 => ?_)
  · refine (r_iinc (y := 6) rfl rfl rfl rfl rfl rfl).trans ?_
    refine (r_goto rfl rfl).trans ?_
    exact rfl
  · refine (r_iconst (v := 0) rfl rfl rfl).trans ?_
    exact r_zret rfl rfl rfl

theorem sg_L_law_949 {d : Nat} {E : pEv} {ro : Nat → Nat → Int32} {Q : Option Value → pH → Prop} (s_E : oE E) {x3 : Int32} {xs0 : Int32} (b0 : (¬ (x3 + 1) < 0 ∧ (x3 + 1).toNatClampNeg < E.1)) : wG d 258 (949, [.ref 9, .ref 10, .ref 101, .int x3], [.int xs0], mkH E ro) Q = wX d 221 [.ref 101, .int (E.2.1 (x3 + 1).toNatClampNeg)] (mkH E ro) (fun v h' => wG d 258 (958, [.ref 9, .ref 10, .ref 101, .int x3], pv v [.int xs0], h') Q) := by
  refine (r_aload_n rfl rfl rfl).trans ?_
  refine (r_aload_n rfl rfl rfl).trans ?_
  refine (r_iload_n rfl rfl rfl).trans ?_
  refine (r_iconst (v := 1) rfl rfl rfl).trans ?_
  refine (r_iadd rfl rfl).trans ?_
  refine (r_ialdX rfl rfl b0).trans ?_
  exact r_inv (m := 221) (c := 10) rfl rfl rfl rfl rfl rfl rfl rfl

theorem sg_L_law_958 {d : Nat} {E : pEv} {ro : Nat → Nat → Int32} {Q : Option Value → pH → Prop} (s_E : oE E) {x3 : Int32} {xs0 : Int32} {xs1 : Int32} : wG d 258 (958, [.ref 9, .ref 10, .ref 101, .int x3], [.int xs1, .int xs0], mkH E ro) Q = (if xs0 = xs1 then wG d 258 (18, [.ref 9, .ref 10, .ref 101, .int (x3 + 6)], [], mkH E ro) Q else Q (some (.int 0)) (mkH E ro)) := by
  refine (r_icmp_eq rfl rfl rfl).trans ?_
  refine ite_congr rfl (fun h_0 => ?_) (fun h_0 => ?_)
  · refine (r_iinc (y := 6) rfl rfl rfl rfl rfl rfl).trans ?_
    refine (r_goto rfl rfl).trans ?_
    exact rfl
  · refine (r_iconst (v := 0) rfl rfl rfl).trans ?_
    exact r_zret rfl rfl rfl

theorem sg_L_law_972 {d : Nat} {E : pEv} {ro : Nat → Nat → Int32} {Q : Option Value → pH → Prop} (s_E : oE E) {x3 : Int32} {xs0 : Int32} (b0 : (¬ (x3 + 1) < 0 ∧ (x3 + 1).toNatClampNeg < E.1)) : wG d 258 (972, [.ref 9, .ref 10, .ref 101, .int x3], [.int xs0], mkH E ro) Q = wX d 223 [.ref 101, .int (E.2.1 (x3 + 1).toNatClampNeg)] (mkH E ro) (fun v h' => wG d 258 (981, [.ref 9, .ref 10, .ref 101, .int x3], pv v [.int xs0], h') Q) := by
  refine (r_aload_n rfl rfl rfl).trans ?_
  refine (r_aload_n rfl rfl rfl).trans ?_
  refine (r_iload_n rfl rfl rfl).trans ?_
  refine (r_iconst (v := 1) rfl rfl rfl).trans ?_
  refine (r_iadd rfl rfl).trans ?_
  refine (r_ialdX rfl rfl b0).trans ?_
  exact r_inv (m := 223) (c := 10) rfl rfl rfl rfl rfl rfl rfl rfl

theorem sg_L_law_981 {d : Nat} {E : pEv} {ro : Nat → Nat → Int32} {Q : Option Value → pH → Prop} (s_E : oE E) {x3 : Int32} {xs0 : Int32} {xs1 : Int32} : wG d 258 (981, [.ref 9, .ref 10, .ref 101, .int x3], [.int xs1, .int xs0], mkH E ro) Q = (if xs0 = xs1 then wG d 258 (18, [.ref 9, .ref 10, .ref 101, .int (x3 + 6)], [], mkH E ro) Q else Q (some (.int 0)) (mkH E ro)) := by
  refine (r_icmp_eq rfl rfl rfl).trans ?_
  refine ite_congr rfl (fun h_0 => ?_) (fun h_0 => ?_)
  · refine (r_iinc (y := 6) rfl rfl rfl rfl rfl rfl).trans ?_
    refine (r_goto rfl rfl).trans ?_
    exact rfl
  · refine (r_iconst (v := 0) rfl rfl rfl).trans ?_
    exact r_zret rfl rfl rfl

theorem sg_L_law_995 {d : Nat} {E : pEv} {ro : Nat → Nat → Int32} {Q : Option Value → pH → Prop} (s_E : oE E) {x3 : Int32} {xs0 : Int32} (b0 : (¬ (x3 + 1) < 0 ∧ (x3 + 1).toNatClampNeg < E.1)) : wG d 258 (995, [.ref 9, .ref 10, .ref 101, .int x3], [.int xs0], mkH E ro) Q = wX d 224 [.ref 101, .int (E.2.1 (x3 + 1).toNatClampNeg)] (mkH E ro) (fun v h' => wG d 258 (1004, [.ref 9, .ref 10, .ref 101, .int x3], pv v [.int xs0], h') Q) := by
  refine (r_aload_n rfl rfl rfl).trans ?_
  refine (r_aload_n rfl rfl rfl).trans ?_
  refine (r_iload_n rfl rfl rfl).trans ?_
  refine (r_iconst (v := 1) rfl rfl rfl).trans ?_
  refine (r_iadd rfl rfl).trans ?_
  refine (r_ialdX rfl rfl b0).trans ?_
  exact r_inv (m := 224) (c := 10) rfl rfl rfl rfl rfl rfl rfl rfl

theorem sg_L_law_1004 {d : Nat} {E : pEv} {ro : Nat → Nat → Int32} {Q : Option Value → pH → Prop} (s_E : oE E) {x3 : Int32} {xs0 : Int32} {xs1 : Int32} : wG d 258 (1004, [.ref 9, .ref 10, .ref 101, .int x3], [.int xs1, .int xs0], mkH E ro) Q = (if xs0 = xs1 then wG d 258 (18, [.ref 9, .ref 10, .ref 101, .int (x3 + 6)], [], mkH E ro) Q else Q (some (.int 0)) (mkH E ro)) := by
  refine (r_icmp_eq rfl rfl rfl).trans ?_
  refine ite_congr rfl (fun h_0 => ?_) (fun h_0 => ?_)
  · refine (r_iinc (y := 6) rfl rfl rfl rfl rfl rfl).trans ?_
    refine (r_goto rfl rfl).trans ?_
    exact rfl
  · refine (r_iconst (v := 0) rfl rfl rfl).trans ?_
    exact r_zret rfl rfl rfl

theorem sg_L_law_1028 {d : Nat} {E : pEv} {ro : Nat → Nat → Int32} {Q : Option Value → pH → Prop} (s_E : oE E) {x3 : Int32} {xs0 : Int32} (b0 : (¬ (x3 + 1) < 0 ∧ (x3 + 1).toNatClampNeg < E.1)) (b1 : (¬ (x3 + 2) < 0 ∧ (x3 + 2).toNatClampNeg < E.1)) (b2 : (¬ (x3 + 3) < 0 ∧ (x3 + 3).toNatClampNeg < E.1)) : wG d 258 (1028, [.ref 9, .ref 10, .ref 101, .int x3], [.int xs0], mkH E ro) Q = wX d 231 [.ref 101, .int (E.2.1 (x3 + 1).toNatClampNeg), .int (E.2.1 (x3 + 2).toNatClampNeg), .int (E.2.1 (x3 + 3).toNatClampNeg)] (mkH E ro) (fun v h' => wG d 258 (1047, [.ref 9, .ref 10, .ref 101, .int x3], pv v [.int xs0], h') Q) := by
  refine (r_aload_n rfl rfl rfl).trans ?_
  refine (r_aload_n rfl rfl rfl).trans ?_
  refine (r_iload_n rfl rfl rfl).trans ?_
  refine (r_iconst (v := 1) rfl rfl rfl).trans ?_
  refine (r_iadd rfl rfl).trans ?_
  refine (r_ialdX rfl rfl b0).trans ?_
  refine (r_aload_n rfl rfl rfl).trans ?_
  refine (r_iload_n rfl rfl rfl).trans ?_
  refine (r_iconst (v := 2) rfl rfl rfl).trans ?_
  refine (r_iadd rfl rfl).trans ?_
  refine (r_ialdX rfl rfl b1).trans ?_
  refine (r_aload_n rfl rfl rfl).trans ?_
  refine (r_iload_n rfl rfl rfl).trans ?_
  refine (r_iconst (v := 3) rfl rfl rfl).trans ?_
  refine (r_iadd rfl rfl).trans ?_
  refine (r_ialdX rfl rfl b2).trans ?_
  exact r_inv (m := 231) (c := 10) rfl rfl rfl rfl rfl rfl rfl rfl

theorem sg_L_law_1047 {d : Nat} {E : pEv} {ro : Nat → Nat → Int32} {Q : Option Value → pH → Prop} (s_E : oE E) {x3 : Int32} {xs0 : Int32} {xs1 : Int32} : wG d 258 (1047, [.ref 9, .ref 10, .ref 101, .int x3], [.int xs1, .int xs0], mkH E ro) Q = (if xs0 = xs1 then wG d 258 (18, [.ref 9, .ref 10, .ref 101, .int (x3 + 6)], [], mkH E ro) Q else Q (some (.int 0)) (mkH E ro)) := by
  refine (r_icmp_eq rfl rfl rfl).trans ?_
  refine ite_congr rfl (fun h_0 => ?_) (fun h_0 => ?_)
  · refine (r_iinc (y := 6) rfl rfl rfl rfl rfl rfl).trans ?_
    refine (r_goto rfl rfl).trans ?_
    exact rfl
  · refine (r_iconst (v := 0) rfl rfl rfl).trans ?_
    exact r_zret rfl rfl rfl

theorem sg_L_law_1061 {d : Nat} {E : pEv} {ro : Nat → Nat → Int32} {Q : Option Value → pH → Prop} (s_E : oE E) {x3 : Int32} {xs0 : Int32} (b0 : (¬ (x3 + 1) < 0 ∧ (x3 + 1).toNatClampNeg < E.1)) : wG d 258 (1061, [.ref 9, .ref 10, .ref 101, .int x3], [.int xs0], mkH E ro) Q = wX d 232 [.ref 101, .int (E.2.1 (x3 + 1).toNatClampNeg)] (mkH E ro) (fun v h' => wG d 258 (1070, [.ref 9, .ref 10, .ref 101, .int x3], pv v [.int xs0], h') Q) := by
  refine (r_aload_n rfl rfl rfl).trans ?_
  refine (r_aload_n rfl rfl rfl).trans ?_
  refine (r_iload_n rfl rfl rfl).trans ?_
  refine (r_iconst (v := 1) rfl rfl rfl).trans ?_
  refine (r_iadd rfl rfl).trans ?_
  refine (r_ialdX rfl rfl b0).trans ?_
  exact r_inv (m := 232) (c := 10) rfl rfl rfl rfl rfl rfl rfl rfl

theorem sg_L_law_1070 {d : Nat} {E : pEv} {ro : Nat → Nat → Int32} {Q : Option Value → pH → Prop} (s_E : oE E) {x3 : Int32} {xs0 : Int32} {xs1 : Int32} : wG d 258 (1070, [.ref 9, .ref 10, .ref 101, .int x3], [.int xs1, .int xs0], mkH E ro) Q = (if xs0 = xs1 then wG d 258 (18, [.ref 9, .ref 10, .ref 101, .int (x3 + 6)], [], mkH E ro) Q else Q (some (.int 0)) (mkH E ro)) := by
  refine (r_icmp_eq rfl rfl rfl).trans ?_
  refine ite_congr rfl (fun h_0 => ?_) (fun h_0 => ?_)
  · refine (r_iinc (y := 6) rfl rfl rfl rfl rfl rfl).trans ?_
    refine (r_goto rfl rfl).trans ?_
    exact rfl
  · refine (r_iconst (v := 0) rfl rfl rfl).trans ?_
    exact r_zret rfl rfl rfl

theorem sg_L_law_1094 {d : Nat} {E : pEv} {ro : Nat → Nat → Int32} {Q : Option Value → pH → Prop} (s_E : oE E) {x3 : Int32} {xs0 : Int32} (b0 : (¬ (x3 + 1) < 0 ∧ (x3 + 1).toNatClampNeg < E.1)) (b1 : (¬ (x3 + 2) < 0 ∧ (x3 + 2).toNatClampNeg < E.1)) (b2 : (¬ (x3 + 3) < 0 ∧ (x3 + 3).toNatClampNeg < E.1)) : wG d 258 (1094, [.ref 9, .ref 10, .ref 101, .int x3], [.int xs0], mkH E ro) Q = wX d 234 [.ref 101, .int (E.2.1 (x3 + 1).toNatClampNeg), .int (E.2.1 (x3 + 2).toNatClampNeg), .int (E.2.1 (x3 + 3).toNatClampNeg)] (mkH E ro) (fun v h' => wG d 258 (1113, [.ref 9, .ref 10, .ref 101, .int x3], pv v [.int xs0], h') Q) := by
  refine (r_aload_n rfl rfl rfl).trans ?_
  refine (r_aload_n rfl rfl rfl).trans ?_
  refine (r_iload_n rfl rfl rfl).trans ?_
  refine (r_iconst (v := 1) rfl rfl rfl).trans ?_
  refine (r_iadd rfl rfl).trans ?_
  refine (r_ialdX rfl rfl b0).trans ?_
  refine (r_aload_n rfl rfl rfl).trans ?_
  refine (r_iload_n rfl rfl rfl).trans ?_
  refine (r_iconst (v := 2) rfl rfl rfl).trans ?_
  refine (r_iadd rfl rfl).trans ?_
  refine (r_ialdX rfl rfl b1).trans ?_
  refine (r_aload_n rfl rfl rfl).trans ?_
  refine (r_iload_n rfl rfl rfl).trans ?_
  refine (r_iconst (v := 3) rfl rfl rfl).trans ?_
  refine (r_iadd rfl rfl).trans ?_
  refine (r_ialdX rfl rfl b2).trans ?_
  exact r_inv (m := 234) (c := 10) rfl rfl rfl rfl rfl rfl rfl rfl

theorem sg_L_law_1113 {d : Nat} {E : pEv} {ro : Nat → Nat → Int32} {Q : Option Value → pH → Prop} (s_E : oE E) {x3 : Int32} {xs0 : Int32} {xs1 : Int32} : wG d 258 (1113, [.ref 9, .ref 10, .ref 101, .int x3], [.int xs1, .int xs0], mkH E ro) Q = (if xs0 = xs1 then wG d 258 (18, [.ref 9, .ref 10, .ref 101, .int (x3 + 6)], [], mkH E ro) Q else Q (some (.int 0)) (mkH E ro)) := by
  refine (r_icmp_eq rfl rfl rfl).trans ?_
  refine ite_congr rfl (fun h_0 => ?_) (fun h_0 => ?_)
  · refine (r_iinc (y := 6) rfl rfl rfl rfl rfl rfl).trans ?_
    refine (r_goto rfl rfl).trans ?_
    exact rfl
  · refine (r_iconst (v := 0) rfl rfl rfl).trans ?_
    exact r_zret rfl rfl rfl

theorem sg_L_law_1137 {d : Nat} {E : pEv} {ro : Nat → Nat → Int32} {Q : Option Value → pH → Prop} (s_E : oE E) {x3 : Int32} {xs0 : Int32} (b0 : (¬ (x3 + 1) < 0 ∧ (x3 + 1).toNatClampNeg < E.1)) (b1 : (¬ (x3 + 2) < 0 ∧ (x3 + 2).toNatClampNeg < E.1)) (b2 : (¬ (x3 + 3) < 0 ∧ (x3 + 3).toNatClampNeg < E.1)) : wG d 258 (1137, [.ref 9, .ref 10, .ref 101, .int x3], [.int xs0], mkH E ro) Q = wX d 235 [.ref 101, .int (E.2.1 (x3 + 1).toNatClampNeg), .int (E.2.1 (x3 + 2).toNatClampNeg), .int (E.2.1 (x3 + 3).toNatClampNeg)] (mkH E ro) (fun v h' => wG d 258 (1156, [.ref 9, .ref 10, .ref 101, .int x3], pv v [.int xs0], h') Q) := by
  refine (r_aload_n rfl rfl rfl).trans ?_
  refine (r_aload_n rfl rfl rfl).trans ?_
  refine (r_iload_n rfl rfl rfl).trans ?_
  refine (r_iconst (v := 1) rfl rfl rfl).trans ?_
  refine (r_iadd rfl rfl).trans ?_
  refine (r_ialdX rfl rfl b0).trans ?_
  refine (r_aload_n rfl rfl rfl).trans ?_
  refine (r_iload_n rfl rfl rfl).trans ?_
  refine (r_iconst (v := 2) rfl rfl rfl).trans ?_
  refine (r_iadd rfl rfl).trans ?_
  refine (r_ialdX rfl rfl b1).trans ?_
  refine (r_aload_n rfl rfl rfl).trans ?_
  refine (r_iload_n rfl rfl rfl).trans ?_
  refine (r_iconst (v := 3) rfl rfl rfl).trans ?_
  refine (r_iadd rfl rfl).trans ?_
  refine (r_ialdX rfl rfl b2).trans ?_
  exact r_inv (m := 235) (c := 10) rfl rfl rfl rfl rfl rfl rfl rfl

theorem sg_L_law_1156 {d : Nat} {E : pEv} {ro : Nat → Nat → Int32} {Q : Option Value → pH → Prop} (s_E : oE E) {x3 : Int32} {xs0 : Int32} {xs1 : Int32} : wG d 258 (1156, [.ref 9, .ref 10, .ref 101, .int x3], [.int xs1, .int xs0], mkH E ro) Q = (if xs0 = xs1 then wG d 258 (18, [.ref 9, .ref 10, .ref 101, .int (x3 + 6)], [], mkH E ro) Q else Q (some (.int 0)) (mkH E ro)) := by
  refine (r_icmp_eq rfl rfl rfl).trans ?_
  refine ite_congr rfl (fun h_0 => ?_) (fun h_0 => ?_)
  · refine (r_iinc (y := 6) rfl rfl rfl rfl rfl rfl).trans ?_
    refine (r_goto rfl rfl).trans ?_
    exact rfl
  · refine (r_iconst (v := 0) rfl rfl rfl).trans ?_
    exact r_zret rfl rfl rfl

theorem sg_L_law_1190 {d : Nat} {E : pEv} {ro : Nat → Nat → Int32} {Q : Option Value → pH → Prop} (s_E : oE E) {x3 : Int32} {xs0 : Int32} (b0 : (¬ (x3 + 1) < 0 ∧ (x3 + 1).toNatClampNeg < E.1)) (b1 : (¬ (x3 + 2) < 0 ∧ (x3 + 2).toNatClampNeg < E.1)) (b2 : (¬ (x3 + 3) < 0 ∧ (x3 + 3).toNatClampNeg < E.1)) (b3 : (¬ (x3 + 4) < 0 ∧ (x3 + 4).toNatClampNeg < E.1)) (b4 : (¬ (x3 + 5) < 0 ∧ (x3 + 5).toNatClampNeg < E.1)) : wG d 258 (1190, [.ref 9, .ref 10, .ref 101, .int x3], [.int xs0], mkH E ro) Q = wX d 236 [.ref 101, .int (E.2.1 (x3 + 1).toNatClampNeg), .int (E.2.1 (x3 + 2).toNatClampNeg), .int (E.2.1 (x3 + 3).toNatClampNeg), .int (E.2.1 (x3 + 4).toNatClampNeg), .int (E.2.1 (x3 + 5).toNatClampNeg)] (mkH E ro) (fun v h' => wG d 258 (1219, [.ref 9, .ref 10, .ref 101, .int x3], pv v [.int xs0], h') Q) := by
  refine (r_aload_n rfl rfl rfl).trans ?_
  refine (r_aload_n rfl rfl rfl).trans ?_
  refine (r_iload_n rfl rfl rfl).trans ?_
  refine (r_iconst (v := 1) rfl rfl rfl).trans ?_
  refine (r_iadd rfl rfl).trans ?_
  refine (r_ialdX rfl rfl b0).trans ?_
  refine (r_aload_n rfl rfl rfl).trans ?_
  refine (r_iload_n rfl rfl rfl).trans ?_
  refine (r_iconst (v := 2) rfl rfl rfl).trans ?_
  refine (r_iadd rfl rfl).trans ?_
  refine (r_ialdX rfl rfl b1).trans ?_
  refine (r_aload_n rfl rfl rfl).trans ?_
  refine (r_iload_n rfl rfl rfl).trans ?_
  refine (r_iconst (v := 3) rfl rfl rfl).trans ?_
  refine (r_iadd rfl rfl).trans ?_
  refine (r_ialdX rfl rfl b2).trans ?_
  refine (r_aload_n rfl rfl rfl).trans ?_
  refine (r_iload_n rfl rfl rfl).trans ?_
  refine (r_iconst (v := 4) rfl rfl rfl).trans ?_
  refine (r_iadd rfl rfl).trans ?_
  refine (r_ialdX rfl rfl b3).trans ?_
  refine (r_aload_n rfl rfl rfl).trans ?_
  refine (r_iload_n rfl rfl rfl).trans ?_
  refine (r_iconst (v := 5) rfl rfl rfl).trans ?_
  refine (r_iadd rfl rfl).trans ?_
  refine (r_ialdX rfl rfl b4).trans ?_
  exact r_inv (m := 236) (c := 10) rfl rfl rfl rfl rfl rfl rfl rfl

theorem sg_L_law_1219 {d : Nat} {E : pEv} {ro : Nat → Nat → Int32} {Q : Option Value → pH → Prop} (s_E : oE E) {x3 : Int32} {xs0 : Int32} {xs1 : Int32} : wG d 258 (1219, [.ref 9, .ref 10, .ref 101, .int x3], [.int xs1, .int xs0], mkH E ro) Q = (if xs0 = xs1 then wG d 258 (18, [.ref 9, .ref 10, .ref 101, .int (x3 + 6)], [], mkH E ro) Q else Q (some (.int 0)) (mkH E ro)) := by
  refine (r_icmp_eq rfl rfl rfl).trans ?_
  refine ite_congr rfl (fun h_0 => ?_) (fun h_0 => ?_)
  · refine (r_iinc (y := 6) rfl rfl rfl rfl rfl rfl).trans ?_
    refine (r_goto rfl rfl).trans ?_
    exact rfl
  · refine (r_iconst (v := 0) rfl rfl rfl).trans ?_
    exact r_zret rfl rfl rfl

theorem sg_L_law_1233 {d : Nat} {E : pEv} {ro : Nat → Nat → Int32} {Q : Option Value → pH → Prop} (s_E : oE E) {x3 : Int32} {xs0 : Int32} (b0 : (¬ (x3 + 1) < 0 ∧ (x3 + 1).toNatClampNeg < E.1)) : wG d 258 (1233, [.ref 9, .ref 10, .ref 101, .int x3], [.int xs0], mkH E ro) Q = wX d 238 [.ref 101, .int (E.2.1 (x3 + 1).toNatClampNeg)] (mkH E ro) (fun v h' => wG d 258 (1242, [.ref 9, .ref 10, .ref 101, .int x3], pv v [.int xs0], h') Q) := by
  refine (r_aload_n rfl rfl rfl).trans ?_
  refine (r_aload_n rfl rfl rfl).trans ?_
  refine (r_iload_n rfl rfl rfl).trans ?_
  refine (r_iconst (v := 1) rfl rfl rfl).trans ?_
  refine (r_iadd rfl rfl).trans ?_
  refine (r_ialdX rfl rfl b0).trans ?_
  exact r_inv (m := 238) (c := 10) rfl rfl rfl rfl rfl rfl rfl rfl

theorem sg_L_law_1242 {d : Nat} {E : pEv} {ro : Nat → Nat → Int32} {Q : Option Value → pH → Prop} (s_E : oE E) {x3 : Int32} {xs0 : Int32} {xs1 : Int32} : wG d 258 (1242, [.ref 9, .ref 10, .ref 101, .int x3], [.int xs1, .int xs0], mkH E ro) Q = (if xs0 = xs1 then wG d 258 (18, [.ref 9, .ref 10, .ref 101, .int (x3 + 6)], [], mkH E ro) Q else Q (some (.int 0)) (mkH E ro)) := by
  refine (r_icmp_eq rfl rfl rfl).trans ?_
  refine ite_congr rfl (fun h_0 => ?_) (fun h_0 => ?_)
  · refine (r_iinc (y := 6) rfl rfl rfl rfl rfl rfl).trans ?_
    refine (r_goto rfl rfl).trans ?_
    exact rfl
  · refine (r_iconst (v := 0) rfl rfl rfl).trans ?_
    exact r_zret rfl rfl rfl

theorem sg_L_law_1256 {d : Nat} {E : pEv} {ro : Nat → Nat → Int32} {Q : Option Value → pH → Prop} (s_E : oE E) {x3 : Int32} {xs0 : Int32} (b0 : (¬ (x3 + 1) < 0 ∧ (x3 + 1).toNatClampNeg < E.1)) : wG d 258 (1256, [.ref 9, .ref 10, .ref 101, .int x3], [.int xs0], mkH E ro) Q = wX d 239 [.ref 101, .int (E.2.1 (x3 + 1).toNatClampNeg)] (mkH E ro) (fun v h' => wG d 258 (1265, [.ref 9, .ref 10, .ref 101, .int x3], pv v [.int xs0], h') Q) := by
  refine (r_aload_n rfl rfl rfl).trans ?_
  refine (r_aload_n rfl rfl rfl).trans ?_
  refine (r_iload_n rfl rfl rfl).trans ?_
  refine (r_iconst (v := 1) rfl rfl rfl).trans ?_
  refine (r_iadd rfl rfl).trans ?_
  refine (r_ialdX rfl rfl b0).trans ?_
  exact r_inv (m := 239) (c := 10) rfl rfl rfl rfl rfl rfl rfl rfl

theorem sg_L_law_1265 {d : Nat} {E : pEv} {ro : Nat → Nat → Int32} {Q : Option Value → pH → Prop} (s_E : oE E) {x3 : Int32} {xs0 : Int32} {xs1 : Int32} : wG d 258 (1265, [.ref 9, .ref 10, .ref 101, .int x3], [.int xs1, .int xs0], mkH E ro) Q = (if xs0 = xs1 then wG d 258 (18, [.ref 9, .ref 10, .ref 101, .int (x3 + 6)], [], mkH E ro) Q else Q (some (.int 0)) (mkH E ro)) := by
  refine (r_icmp_eq rfl rfl rfl).trans ?_
  refine ite_congr rfl (fun h_0 => ?_) (fun h_0 => ?_)
  · refine (r_iinc (y := 6) rfl rfl rfl rfl rfl rfl).trans ?_
    refine (r_goto rfl rfl).trans ?_
    exact rfl
  · refine (r_iconst (v := 0) rfl rfl rfl).trans ?_
    exact r_zret rfl rfl rfl

theorem sg_L_law_1274 {d : Nat} {E : pEv} {ro : Nat → Nat → Int32} {Q : Option Value → pH → Prop} (s_E : oE E) {x3 : Int32} {xs0 : Int32} : wG d 258 (1274, [.ref 9, .ref 10, .ref 101, .int x3], [.int xs0], mkH E ro) Q = wX d 240 [.ref 101] (mkH E ro) (fun v h' => wG d 258 (1278, [.ref 9, .ref 10, .ref 101, .int x3], pv v [.int xs0], h') Q) := by
  refine (r_aload_n rfl rfl rfl).trans ?_
  exact r_inv (m := 240) (c := 10) rfl rfl rfl rfl rfl rfl rfl rfl

theorem sg_L_law_1278 {d : Nat} {E : pEv} {ro : Nat → Nat → Int32} {Q : Option Value → pH → Prop} (s_E : oE E) {x3 : Int32} {xs0 : Int32} {xs1 : Int32} : wG d 258 (1278, [.ref 9, .ref 10, .ref 101, .int x3], [.int xs1, .int xs0], mkH E ro) Q = (if xs0 = xs1 then wG d 258 (18, [.ref 9, .ref 10, .ref 101, .int (x3 + 6)], [], mkH E ro) Q else Q (some (.int 0)) (mkH E ro)) := by
  refine (r_icmp_eq rfl rfl rfl).trans ?_
  refine ite_congr rfl (fun h_0 => ?_) (fun h_0 => ?_)
  · refine (r_iinc (y := 6) rfl rfl rfl rfl rfl rfl).trans ?_
    refine (r_goto rfl rfl).trans ?_
    exact rfl
  · refine (r_iconst (v := 0) rfl rfl rfl).trans ?_
    exact r_zret rfl rfl rfl

theorem sg_L_law_1287 {d : Nat} {E : pEv} {ro : Nat → Nat → Int32} {Q : Option Value → pH → Prop} (s_E : oE E) {x3 : Int32} {xs0 : Int32} : wG d 258 (1287, [.ref 9, .ref 10, .ref 101, .int x3], [.int xs0], mkH E ro) Q = wX d 241 [.ref 101] (mkH E ro) (fun v h' => wG d 258 (1291, [.ref 9, .ref 10, .ref 101, .int x3], pv v [.int xs0], h') Q) := by
  refine (r_aload_n rfl rfl rfl).trans ?_
  exact r_inv (m := 241) (c := 10) rfl rfl rfl rfl rfl rfl rfl rfl

theorem sg_L_law_1291 {d : Nat} {E : pEv} {ro : Nat → Nat → Int32} {Q : Option Value → pH → Prop} (s_E : oE E) {x3 : Int32} {xs0 : Int32} {xs1 : Int32} : wG d 258 (1291, [.ref 9, .ref 10, .ref 101, .int x3], [.int xs1, .int xs0], mkH E ro) Q = (if xs0 = xs1 then wG d 258 (18, [.ref 9, .ref 10, .ref 101, .int (x3 + 6)], [], mkH E ro) Q else Q (some (.int 0)) (mkH E ro)) := by
  refine (r_icmp_eq rfl rfl rfl).trans ?_
  refine ite_congr rfl (fun h_0 => ?_) (fun h_0 => ?_)
  · refine (r_iinc (y := 6) rfl rfl rfl rfl rfl rfl).trans ?_
    refine (r_goto rfl rfl).trans ?_
    exact rfl
  · refine (r_iconst (v := 0) rfl rfl rfl).trans ?_
    exact r_zret rfl rfl rfl

theorem sg_L_law_1305 {d : Nat} {E : pEv} {ro : Nat → Nat → Int32} {Q : Option Value → pH → Prop} (s_E : oE E) {x3 : Int32} {xs0 : Int32} (b0 : (¬ (x3 + 1) < 0 ∧ (x3 + 1).toNatClampNeg < E.1)) : wG d 258 (1305, [.ref 9, .ref 10, .ref 101, .int x3], [.int xs0], mkH E ro) Q = wX d 242 [.ref 101, .int (E.2.1 (x3 + 1).toNatClampNeg)] (mkH E ro) (fun v h' => wG d 258 (1314, [.ref 9, .ref 10, .ref 101, .int x3], pv v [.int xs0], h') Q) := by
  refine (r_aload_n rfl rfl rfl).trans ?_
  refine (r_aload_n rfl rfl rfl).trans ?_
  refine (r_iload_n rfl rfl rfl).trans ?_
  refine (r_iconst (v := 1) rfl rfl rfl).trans ?_
  refine (r_iadd rfl rfl).trans ?_
  refine (r_ialdX rfl rfl b0).trans ?_
  exact r_inv (m := 242) (c := 10) rfl rfl rfl rfl rfl rfl rfl rfl

theorem sg_L_law_1314 {d : Nat} {E : pEv} {ro : Nat → Nat → Int32} {Q : Option Value → pH → Prop} (s_E : oE E) {x3 : Int32} {xs0 : Int32} {xs1 : Int32} : wG d 258 (1314, [.ref 9, .ref 10, .ref 101, .int x3], [.int xs1, .int xs0], mkH E ro) Q = (if xs0 = xs1 then wG d 258 (18, [.ref 9, .ref 10, .ref 101, .int (x3 + 6)], [], mkH E ro) Q else Q (some (.int 0)) (mkH E ro)) := by
  refine (r_icmp_eq rfl rfl rfl).trans ?_
  refine ite_congr rfl (fun h_0 => ?_) (fun h_0 => ?_)
  · refine (r_iinc (y := 6) rfl rfl rfl rfl rfl rfl).trans ?_
    refine (r_goto rfl rfl).trans ?_
    exact rfl
  · refine (r_iconst (v := 0) rfl rfl rfl).trans ?_
    exact r_zret rfl rfl rfl

theorem sg_L_law_1323 {d : Nat} {E : pEv} {ro : Nat → Nat → Int32} {Q : Option Value → pH → Prop} (s_E : oE E) {x3 : Int32} {xs0 : Int32} : wG d 258 (1323, [.ref 9, .ref 10, .ref 101, .int x3], [.int xs0], mkH E ro) Q = wX d 243 [.ref 101] (mkH E ro) (fun v h' => wG d 258 (1327, [.ref 9, .ref 10, .ref 101, .int x3], pv v [.int xs0], h') Q) := by
  refine (r_aload_n rfl rfl rfl).trans ?_
  exact r_inv (m := 243) (c := 10) rfl rfl rfl rfl rfl rfl rfl rfl

theorem sg_L_law_1327 {d : Nat} {E : pEv} {ro : Nat → Nat → Int32} {Q : Option Value → pH → Prop} (s_E : oE E) {x3 : Int32} {xs0 : Int32} {xs1 : Int32} : wG d 258 (1327, [.ref 9, .ref 10, .ref 101, .int x3], [.int xs1, .int xs0], mkH E ro) Q = (if xs0 = xs1 then wG d 258 (18, [.ref 9, .ref 10, .ref 101, .int (x3 + 6)], [], mkH E ro) Q else Q (some (.int 0)) (mkH E ro)) := by
  refine (r_icmp_eq rfl rfl rfl).trans ?_
  refine ite_congr rfl (fun h_0 => ?_) (fun h_0 => ?_)
  · refine (r_iinc (y := 6) rfl rfl rfl rfl rfl rfl).trans ?_
    refine (r_goto rfl rfl).trans ?_
    exact rfl
  · refine (r_iconst (v := 0) rfl rfl rfl).trans ?_
    exact r_zret rfl rfl rfl

theorem sg_L_law_1341 {d : Nat} {E : pEv} {ro : Nat → Nat → Int32} {Q : Option Value → pH → Prop} (s_E : oE E) {x3 : Int32} {xs0 : Int32} (b0 : (¬ (x3 + 1) < 0 ∧ (x3 + 1).toNatClampNeg < E.1)) : wG d 258 (1341, [.ref 9, .ref 10, .ref 101, .int x3], [.int xs0], mkH E ro) Q = wX d 245 [.ref 101, .int (E.2.1 (x3 + 1).toNatClampNeg)] (mkH E ro) (fun v h' => wG d 258 (1350, [.ref 9, .ref 10, .ref 101, .int x3], pv v [.int xs0], h') Q) := by
  refine (r_aload_n rfl rfl rfl).trans ?_
  refine (r_aload_n rfl rfl rfl).trans ?_
  refine (r_iload_n rfl rfl rfl).trans ?_
  refine (r_iconst (v := 1) rfl rfl rfl).trans ?_
  refine (r_iadd rfl rfl).trans ?_
  refine (r_ialdX rfl rfl b0).trans ?_
  exact r_inv (m := 245) (c := 10) rfl rfl rfl rfl rfl rfl rfl rfl

theorem sg_L_law_1350 {d : Nat} {E : pEv} {ro : Nat → Nat → Int32} {Q : Option Value → pH → Prop} (s_E : oE E) {x3 : Int32} {xs0 : Int32} {xs1 : Int32} : wG d 258 (1350, [.ref 9, .ref 10, .ref 101, .int x3], [.int xs1, .int xs0], mkH E ro) Q = (if xs0 = xs1 then wG d 258 (18, [.ref 9, .ref 10, .ref 101, .int (x3 + 6)], [], mkH E ro) Q else Q (some (.int 0)) (mkH E ro)) := by
  refine (r_icmp_eq rfl rfl rfl).trans ?_
  refine ite_congr rfl (fun h_0 => ?_) (fun h_0 => ?_)
  · refine (r_iinc (y := 6) rfl rfl rfl rfl rfl rfl).trans ?_
    refine (r_goto rfl rfl).trans ?_
    exact rfl
  · refine (r_iconst (v := 0) rfl rfl rfl).trans ?_
    exact r_zret rfl rfl rfl

theorem sg_L_law_1364 {d : Nat} {E : pEv} {ro : Nat → Nat → Int32} {Q : Option Value → pH → Prop} (s_E : oE E) {x3 : Int32} {xs0 : Int32} (b0 : (¬ (x3 + 1) < 0 ∧ (x3 + 1).toNatClampNeg < E.1)) : wG d 258 (1364, [.ref 9, .ref 10, .ref 101, .int x3], [.int xs0], mkH E ro) Q = wX d 246 [.ref 101, .int (E.2.1 (x3 + 1).toNatClampNeg)] (mkH E ro) (fun v h' => wG d 258 (1373, [.ref 9, .ref 10, .ref 101, .int x3], pv v [.int xs0], h') Q) := by
  refine (r_aload_n rfl rfl rfl).trans ?_
  refine (r_aload_n rfl rfl rfl).trans ?_
  refine (r_iload_n rfl rfl rfl).trans ?_
  refine (r_iconst (v := 1) rfl rfl rfl).trans ?_
  refine (r_iadd rfl rfl).trans ?_
  refine (r_ialdX rfl rfl b0).trans ?_
  exact r_inv (m := 246) (c := 10) rfl rfl rfl rfl rfl rfl rfl rfl

theorem sg_L_law_1373 {d : Nat} {E : pEv} {ro : Nat → Nat → Int32} {Q : Option Value → pH → Prop} (s_E : oE E) {x3 : Int32} {xs0 : Int32} {xs1 : Int32} : wG d 258 (1373, [.ref 9, .ref 10, .ref 101, .int x3], [.int xs1, .int xs0], mkH E ro) Q = (if xs0 = xs1 then wG d 258 (18, [.ref 9, .ref 10, .ref 101, .int (x3 + 6)], [], mkH E ro) Q else Q (some (.int 0)) (mkH E ro)) := by
  refine (r_icmp_eq rfl rfl rfl).trans ?_
  refine ite_congr rfl (fun h_0 => ?_) (fun h_0 => ?_)
  · refine (r_iinc (y := 6) rfl rfl rfl rfl rfl rfl).trans ?_
    refine (r_goto rfl rfl).trans ?_
    exact rfl
  · refine (r_iconst (v := 0) rfl rfl rfl).trans ?_
    exact r_zret rfl rfl rfl
