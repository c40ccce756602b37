theorem en_X9_scene {d : Nat} {E : pEv} {ro : Nat → Nat → Int32} {Q : Option Value → pH → Prop} (s_E : oE E) {x1 : Int32} {x2 : Int32} {x3 : Int32} {x4 : Int32} : wX (d + 1) 96 [.ref 10, .int x1, .int x2, .int x3, .int x4] (mkH E ro) Q = wX d 140 [.int x1] (mkH E ro) (fun v h' => wG d 96 (4, [.ref 10, .int x1, .int x2, .int x3, .int x4], pv v [], h') Q) := by
  refine (wX_in rfl (by decide)).trans ?_
  show wG d 96 (0, [.ref 10, .int x1, .int x2, .int x3, .int x4], [], mkH E ro) Q = _
  refine (r_iload_n rfl rfl rfl).trans ?_
  exact r_ins (m := 140) rfl rfl rfl rfl rfl rfl

theorem sg_X9_scene_4 {d : Nat} {E : pEv} {ro : Nat → Nat → Int32} {Q : Option Value → pH → Prop} (s_E : oE E) {x1 : Int32} {x2 : Int32} {x3 : Int32} {x4 : Int32} {xs0 : Int32} : wG d 96 (4, [.ref 10, .int x1, .int x2, .int x3, .int x4], [.int xs0], mkH E ro) Q = (if xs0 = 0 then wX d 136 [.ref 10, .int (-1000000001)] (mkH E ro) (fun v h' => wG d 96 (42, [.ref 10, .int x1, .int x2, .int x3, .int x4], pv v [], h') Q) else wX d 139 [.ref 10, .int x2] (mkH E ro) (fun v h' => wG d 96 (12, [.ref 10, .int x1, .int x2, .int x3, .int x4], pv v [], h') Q)) := by
  refine (r_if_eq rfl rfl rfl).trans ?_
  refine ite_congr rfl (fun h_0 => ?_) (fun h_0 => ?_)
  · refine (r_aload_n rfl rfl rfl).trans ?_
    refine (r_ldc (v := (-1000000001)) rfl rfl rfl).trans ?_
    exact r_inv (m := 136) (c := 9) rfl rfl rfl rfl rfl rfl rfl rfl
  · refine (r_aload_n rfl rfl rfl).trans ?_
    refine (r_iload_n rfl rfl rfl).trans ?_
    exact r_inv (m := 139) (c := 9) rfl rfl rfl rfl rfl rfl rfl rfl

theorem sg_X9_scene_12 {d : Nat} {E : pEv} {ro : Nat → Nat → Int32} {Q : Option Value → pH → Prop} (s_E : oE E) {x1 : Int32} {x2 : Int32} {x3 : Int32} {x4 : Int32} {xs0 : Int32} : wG d 96 (12, [.ref 10, .int x1, .int x2, .int x3, .int x4], [.int xs0], mkH E ro) Q = (if xs0 = 0 then wX d 136 [.ref 10, .int (-1000000001)] (mkH E ro) (fun v h' => wG d 96 (42, [.ref 10, .int x1, .int x2, .int x3, .int x4], pv v [], h') Q) else wX d 146 [.int x3, .int 1, .int 30] (mkH E ro) (fun v h' => wG d 96 (22, [.ref 10, .int x1, .int x2, .int x3, .int x4], pv v [], h') Q)) := by
  refine (r_if_eq rfl rfl rfl).trans ?_
  refine ite_congr rfl (fun h_0 => ?_) (fun h_0 => ?_)
  · refine (r_aload_n rfl rfl rfl).trans ?_
    refine (r_ldc (v := (-1000000001)) rfl rfl rfl).trans ?_
    exact r_inv (m := 136) (c := 9) rfl rfl rfl rfl rfl rfl rfl rfl
  · refine (r_iload_n rfl rfl rfl).trans ?_
    refine (r_iconst (v := 1) rfl rfl rfl).trans ?_
    refine (r_bipush (v := 30) rfl rfl rfl).trans ?_
    exact r_ins (m := 146) rfl rfl rfl rfl rfl rfl

theorem sg_X9_scene_22 {d : Nat} {E : pEv} {ro : Nat → Nat → Int32} {Q : Option Value → pH → Prop} (s_E : oE E) {x1 : Int32} {x2 : Int32} {x3 : Int32} {x4 : Int32} {xs0 : Int32} : wG d 96 (22, [.ref 10, .int x1, .int x2, .int x3, .int x4], [.int xs0], mkH E ro) Q = (if xs0 = 0 then wX d 136 [.ref 10, .int (-1000000001)] (mkH E ro) (fun v h' => wG d 96 (42, [.ref 10, .int x1, .int x2, .int x3, .int x4], pv v [], h') Q) else wX d 146 [.int x4, .int 0, .int 63] (mkH E ro) (fun v h' => wG d 96 (33, [.ref 10, .int x1, .int x2, .int x3, .int x4], pv v [], h') Q)) := by
  refine (r_if_eq rfl rfl rfl).trans ?_
  refine ite_congr rfl (fun h_0 => ?_) (fun h_0 => ?_)
  · refine (r_aload_n rfl rfl rfl).trans ?_
    refine (r_ldc (v := (-1000000001)) rfl rfl rfl).trans ?_
    exact r_inv (m := 136) (c := 9) rfl rfl rfl rfl rfl rfl rfl rfl
  · refine (r_iload rfl rfl rfl).trans ?_
    refine (r_iconst (v := 0) rfl rfl rfl).trans ?_
    refine (r_bipush (v := 63) rfl rfl rfl).trans ?_
    exact r_ins (m := 146) rfl rfl rfl rfl rfl rfl

theorem sg_X9_scene_33 {d : Nat} {E : pEv} {ro : Nat → Nat → Int32} {Q : Option Value → pH → Prop} (s_E : oE E) {x1 : Int32} {x2 : Int32} {x3 : Int32} {x4 : Int32} {xs0 : Int32} : wG d 96 (33, [.ref 10, .int x1, .int x2, .int x3, .int x4], [.int xs0], mkH E ro) Q = (if xs0 = 0 then wX d 136 [.ref 10, .int (-1000000001)] (mkH E ro) (fun v h' => wG d 96 (42, [.ref 10, .int x1, .int x2, .int x3, .int x4], pv v [], h') Q) else (if (ro 11 7) < 7 then wX d 23 [.ref 11, .int x1, .int x2, .int x3, .int x4] (mkH E ro) (fun v h' => wG d 96 (74, [.ref 10, .int x1, .int x2, .int x3, .int x4], pv v [], h') Q) else wX d 136 [.ref 10, .int (-1000000004)] (mkH E ro) (fun v h' => wG d 96 (61, [.ref 10, .int x1, .int x2, .int x3, .int x4], pv v [], h') Q))) := by
  refine (r_if_ne rfl rfl rfl).trans ?_
  refine ite_congr rfl (fun h_0 => ?_) (fun h_0 => ?_)
  · refine (r_aload_n rfl rfl rfl).trans ?_
    refine (r_ldc (v := (-1000000001)) rfl rfl rfl).trans ?_
    exact r_inv (m := 136) (c := 9) rfl rfl rfl rfl rfl rfl rfl rfl
  · refine (r_aload_n rfl rfl rfl).trans ?_
    refine (r_getR (ci := 9) (sl := 0) s_E rfl rfl rfl rfl (by decide) rfl rfl).trans ?_
    refine (r_getI (ci := 2) (sl := 7) rfl rfl rfl rfl (by decide)).trans ?_
    refine (r_bipush (v := 7) rfl rfl rfl).trans ?_
    refine (r_icmp_lt rfl rfl rfl).trans ?_
    refine ite_congr rfl (fun h_1 => ?_) (fun h_1 => ?_)
    · refine (r_aload_n rfl rfl rfl).trans ?_
      refine (r_getR (ci := 9) (sl := 0) s_E rfl rfl rfl rfl (by decide) rfl rfl).trans ?_
      refine (r_iload_n rfl rfl rfl).trans ?_
      refine (r_iload_n rfl rfl rfl).trans ?_
      refine (r_iload_n rfl rfl rfl).trans ?_
      refine (r_iload rfl rfl rfl).trans ?_
      exact r_inv (m := 23) (c := 2) rfl rfl rfl rfl rfl rfl rfl rfl
    · refine (r_aload_n rfl rfl rfl).trans ?_
      refine (r_ldc (v := (-1000000004)) rfl rfl rfl).trans ?_
      exact r_inv (m := 136) (c := 9) rfl rfl rfl rfl rfl rfl rfl rfl

theorem sg_X9_scene_42 {d : Nat} {E : pEv} {ro : Nat → Nat → Int32} {Q : Option Value → pH → Prop} (s_E : oE E) {x1 : Int32} {x2 : Int32} {x3 : Int32} {x4 : Int32} {xs0 : Int32} : wG d 96 (42, [.ref 10, .int x1, .int x2, .int x3, .int x4], [.int xs0], mkH E ro) Q = Q (some (.int xs0)) (mkH E ro) := by
  exact r_iret rfl rfl

theorem sg_X9_scene_61 {d : Nat} {E : pEv} {ro : Nat → Nat → Int32} {Q : Option Value → pH → Prop} (s_E : oE E) {x1 : Int32} {x2 : Int32} {x3 : Int32} {x4 : Int32} {xs0 : Int32} : wG d 96 (61, [.ref 10, .int x1, .int x2, .int x3, .int x4], [.int xs0], mkH E ro) Q = Q (some (.int xs0)) (mkH E ro) := by
  exact r_iret rfl rfl

theorem sg_X9_scene_74 {d : Nat} {E : pEv} {ro : Nat → Nat → Int32} {Q : Option Value → pH → Prop} (s_E : oE E) {x1 : Int32} {x2 : Int32} {x3 : Int32} {x4 : Int32} {xs0 : Int32} : wG d 96 (74, [.ref 10, .int x1, .int x2, .int x3, .int x4], [.int xs0], mkH E ro) Q = Q (some (.int xs0)) (mkH E ro) := by
  exact r_iret rfl rfl

theorem en_X9_prop {d : Nat} {E : pEv} {ro : Nat → Nat → Int32} {Q : Option Value → pH → Prop} (s_E : oE E) {x1 : Int32} {x2 : Int32} {x3 : Int32} {x4 : Int32} : wX (d + 1) 97 [.ref 10, .int x1, .int x2, .int x3, .int x4] (mkH E ro) Q = wX d 137 [.ref 10, .int x1] (mkH E ro) (fun v h' => wG d 97 (5, [.ref 10, .int x1, .int x2, .int x3, .int x4], pv v [], h') Q) := by
  refine (wX_in rfl (by decide)).trans ?_
  show wG d 97 (0, [.ref 10, .int x1, .int x2, .int x3, .int x4], [], mkH E ro) Q = _
  refine (r_aload_n rfl rfl rfl).trans ?_
  refine (r_iload_n rfl rfl rfl).trans ?_
  exact r_inv (m := 137) (c := 9) rfl rfl rfl rfl rfl rfl rfl rfl

theorem sg_X9_prop_5 {d : Nat} {E : pEv} {ro : Nat → Nat → Int32} {Q : Option Value → pH → Prop} (s_E : oE E) {x1 : Int32} {x2 : Int32} {x3 : Int32} {x4 : Int32} {xs0 : Int32} : wG d 97 (5, [.ref 10, .int x1, .int x2, .int x3, .int x4], [.int xs0], mkH E ro) Q = (if xs0 = 0 then wX d 136 [.ref 10, .int (-1000000001)] (mkH E ro) (fun v h' => wG d 97 (23, [.ref 10, .int x1, .int x2, .int x3, .int x4], pv v [], h') Q) else wX d 146 [.int x2, .int 0, .int 4] (mkH E ro) (fun v h' => wG d 97 (14, [.ref 10, .int x1, .int x2, .int x3, .int x4], pv v [], h') Q)) := by
  refine (r_if_eq rfl rfl rfl).trans ?_
  refine ite_congr rfl (fun h_0 => ?_) (fun h_0 => ?_)
  · refine (r_aload_n rfl rfl rfl).trans ?_
    refine (r_ldc (v := (-1000000001)) rfl rfl rfl).trans ?_
    exact r_inv (m := 136) (c := 9) rfl rfl rfl rfl rfl rfl rfl rfl
  · refine (r_iload_n rfl rfl rfl).trans ?_
    refine (r_iconst (v := 0) rfl rfl rfl).trans ?_
    refine (r_iconst (v := 4) rfl rfl rfl).trans ?_
    exact r_ins (m := 146) rfl rfl rfl rfl rfl rfl

theorem sg_X9_prop_14 {d : Nat} {E : pEv} {ro : Nat → Nat → Int32} {Q : Option Value → pH → Prop} (s_E : oE E) {x1 : Int32} {x2 : Int32} {x3 : Int32} {x4 : Int32} {xs0 : Int32} : wG d 97 (14, [.ref 10, .int x1, .int x2, .int x3, .int x4], [.int xs0], mkH E ro) Q = (if xs0 = 0 then wX d 136 [.ref 10, .int (-1000000001)] (mkH E ro) (fun v h' => wG d 97 (23, [.ref 10, .int x1, .int x2, .int x3, .int x4], pv v [], h') Q) else (if x2 = 4 then wX d 20 [.ref 11, .int x1] (mkH E ro) (fun v h' => wG d 97 (63, [.ref 10, .int x1, .int x2, .int x3, .int x4], pv v [], h') Q) else wX d 146 [.int x3, .int 0, .int 5] (mkH E ro) (fun v h' => wG d 97 (35, [.ref 10, .int x1, .int x2, .int x3, .int x4], pv v [], h') Q))) := by
  refine (r_if_ne rfl rfl rfl).trans ?_
  refine ite_congr rfl (fun h_0 => ?_) (fun h_0 => ?_)
  · refine (r_aload_n rfl rfl rfl).trans ?_
    refine (r_ldc (v := (-1000000001)) rfl rfl rfl).trans ?_
    exact r_inv (m := 136) (c := 9) rfl rfl rfl rfl rfl rfl rfl rfl
  · refine (r_iload_n rfl rfl rfl).trans ?_
    refine (r_iconst (v := 4) rfl rfl rfl).trans ?_
    refine (r_icmp_eq rfl rfl rfl).trans ?_
    refine ite_congr rfl (fun h_1 => ?_) (fun h_1 => ?_)
    · refine (r_aload_n rfl rfl rfl).trans ?_
      refine (r_getR (ci := 9) (sl := 0) s_E rfl rfl rfl rfl (by decide) rfl rfl).trans ?_
      refine (r_iload_n rfl rfl rfl).trans ?_
      exact r_inv (m := 20) (c := 2) rfl rfl rfl rfl rfl rfl rfl rfl
    · refine (r_iload_n rfl rfl rfl).trans ?_
      refine (r_iconst (v := 0) rfl rfl rfl).trans ?_
      refine (r_iconst (v := 5) rfl rfl rfl).trans ?_
      exact r_ins (m := 146) rfl rfl rfl rfl rfl rfl

theorem sg_X9_prop_23 {d : Nat} {E : pEv} {ro : Nat → Nat → Int32} {Q : Option Value → pH → Prop} (s_E : oE E) {x1 : Int32} {x2 : Int32} {x3 : Int32} {x4 : Int32} {xs0 : Int32} : wG d 97 (23, [.ref 10, .int x1, .int x2, .int x3, .int x4], [.int xs0], mkH E ro) Q = Q (some (.int xs0)) (mkH E ro) := by
  exact r_iret rfl rfl

theorem sg_X9_prop_35 {d : Nat} {E : pEv} {ro : Nat → Nat → Int32} {Q : Option Value → pH → Prop} (s_E : oE E) {x1 : Int32} {x2 : Int32} {x3 : Int32} {x4 : Int32} {xs0 : Int32} : wG d 97 (35, [.ref 10, .int x1, .int x2, .int x3, .int x4], [.int xs0], mkH E ro) Q = (if xs0 = 0 then wX d 136 [.ref 10, .int (-1000000001)] (mkH E ro) (fun v h' => wG d 97 (54, [.ref 10, .int x1, .int x2, .int x3, .int x4], pv v [], h') Q) else wX d 146 [.int x4, .int 0, .int 5] (mkH E ro) (fun v h' => wG d 97 (45, [.ref 10, .int x1, .int x2, .int x3, .int x4], pv v [], h') Q)) := by
  refine (r_if_eq rfl rfl rfl).trans ?_
  refine ite_congr rfl (fun h_0 => ?_) (fun h_0 => ?_)
  · refine (r_aload_n rfl rfl rfl).trans ?_
    refine (r_ldc (v := (-1000000001)) rfl rfl rfl).trans ?_
    exact r_inv (m := 136) (c := 9) rfl rfl rfl rfl rfl rfl rfl rfl
  · refine (r_iload rfl rfl rfl).trans ?_
    refine (r_iconst (v := 0) rfl rfl rfl).trans ?_
    refine (r_iconst (v := 5) rfl rfl rfl).trans ?_
    exact r_ins (m := 146) rfl rfl rfl rfl rfl rfl

theorem sg_X9_prop_45 {d : Nat} {E : pEv} {ro : Nat → Nat → Int32} {Q : Option Value → pH → Prop} (s_E : oE E) {x1 : Int32} {x2 : Int32} {x3 : Int32} {x4 : Int32} {xs0 : Int32} : wG d 97 (45, [.ref 10, .int x1, .int x2, .int x3, .int x4], [.int xs0], mkH E ro) Q = (if xs0 = 0 then wX d 136 [.ref 10, .int (-1000000001)] (mkH E ro) (fun v h' => wG d 97 (54, [.ref 10, .int x1, .int x2, .int x3, .int x4], pv v [], h') Q) else wX d 20 [.ref 11, .int x1] (mkH E ro) (fun v h' => wG d 97 (63, [.ref 10, .int x1, .int x2, .int x3, .int x4], pv v [], h') Q)) := by
  refine (r_if_ne rfl rfl rfl).trans ?_
  refine ite_congr rfl (fun h_0 => ?_) (fun h_0 => ?_)
  · refine (r_aload_n rfl rfl rfl).trans ?_
    refine (r_ldc (v := (-1000000001)) rfl rfl rfl).trans ?_
    exact r_inv (m := 136) (c := 9) rfl rfl rfl rfl rfl rfl rfl rfl
  · refine (r_aload_n rfl rfl rfl).trans ?_
    refine (r_getR (ci := 9) (sl := 0) s_E rfl rfl rfl rfl (by decide) rfl rfl).trans ?_
    refine (r_iload_n rfl rfl rfl).trans ?_
    exact r_inv (m := 20) (c := 2) rfl rfl rfl rfl rfl rfl rfl rfl

theorem sg_X9_prop_54 {d : Nat} {E : pEv} {ro : Nat → Nat → Int32} {Q : Option Value → pH → Prop} (s_E : oE E) {x1 : Int32} {x2 : Int32} {x3 : Int32} {x4 : Int32} {xs0 : Int32} : wG d 97 (54, [.ref 10, .int x1, .int x2, .int x3, .int x4], [.int xs0], mkH E ro) Q = Q (some (.int xs0)) (mkH E ro) := by
  exact r_iret rfl rfl

theorem sg_X9_prop_63 {d : Nat} {E : pEv} {ro : Nat → Nat → Int32} {Q : Option Value → pH → Prop} (s_E : oE E) {x1 : Int32} {x2 : Int32} {x3 : Int32} {x4 : Int32} {rs0 : Nat} (hs0 : oScene rs0) : wG d 97 (63, [.ref 10, .int x1, .int x2, .int x3, .int x4], [.ref rs0], mkH E ro) Q = wX d 74 [.ref rs0, .int x2, .int x3, .int x4] (mkH E ro) (fun v h' => wG d 97 (70, [.ref 10, .int x1, .int x2, .int x3, .int x4], pv v [], h') Q) := by
  refine (r_iload_n rfl rfl rfl).trans ?_
  refine (r_iload_n rfl rfl rfl).trans ?_
  refine (r_iload rfl rfl rfl).trans ?_
  exact r_inv (m := 74) (c := 5) rfl rfl rfl rfl rfl rfl hs0.2.1 rfl

theorem sg_X9_prop_70 {d : Nat} {E : pEv} {ro : Nat → Nat → Int32} {Q : Option Value → pH → Prop} (s_E : oE E) {x1 : Int32} {x2 : Int32} {x3 : Int32} {x4 : Int32} : wG d 97 (70, [.ref 10, .int x1, .int x2, .int x3, .int x4], [], mkH E ro) Q = Q (some (.int 1)) (mkH E ro) := by
  refine (r_iconst (v := 1) rfl rfl rfl).trans ?_
  exact r_iret rfl rfl

theorem en_X9_ofScene {d : Nat} {E : pEv} {ro : Nat → Nat → Int32} {Q : Option Value → pH → Prop} (s_E : oE E) {x1 : Int32} {x2 : Int32} : wX (d + 1) 98 [.ref 10, .int x1, .int x2] (mkH E ro) Q = wX d 137 [.ref 10, .int x1] (mkH E ro) (fun v h' => wG d 98 (5, [.ref 10, .int x1, .int x2, .retAddr 0], pv v [], h') Q) := by
  refine (wX_in rfl (by decide)).trans ?_
  show wG d 98 (0, [.ref 10, .int x1, .int x2, .retAddr 0], [], mkH E ro) Q = _
  refine (r_aload_n rfl rfl rfl).trans ?_
  refine (r_iload_n rfl rfl rfl).trans ?_
  exact r_inv (m := 137) (c := 9) rfl rfl rfl rfl rfl rfl rfl rfl

theorem sg_X9_ofScene_5 {d : Nat} {E : pEv} {ro : Nat → Nat → Int32} {Q : Option Value → pH → Prop} (s_E : oE E) {x1 : Int32} {x2 : Int32} {v3 : Value} {xs0 : Int32} : wG d 98 (5, [.ref 10, .int x1, .int x2, v3], [.int xs0], mkH E ro) Q = (if xs0 = 0 then wX d 136 [.ref 10, .int (-1000000001)] (mkH E ro) (fun v h' => wG d 98 (24, [.ref 10, .int x1, .int x2, v3], pv v [], h') Q) else wX d 146 [.int x2, .int 0, .int 10] (mkH E ro) (fun v h' => wG d 98 (15, [.ref 10, .int x1, .int x2, v3], pv v [], h') Q)) := by
  refine (r_if_eq rfl rfl rfl).trans ?_
  refine ite_congr rfl (fun h_0 => ?_) (fun h_0 => ?_)
  · refine (r_aload_n rfl rfl rfl).trans ?_
    refine (r_ldc (v := (-1000000001)) rfl rfl rfl).trans ?_
    exact r_inv (m := 136) (c := 9) rfl rfl rfl rfl rfl rfl rfl rfl
  · refine (r_iload_n rfl rfl rfl).trans ?_
    refine (r_iconst (v := 0) rfl rfl rfl).trans ?_
    refine (r_bipush (v := 10) rfl rfl rfl).trans ?_
    exact r_ins (m := 146) rfl rfl rfl rfl rfl rfl

theorem sg_X9_ofScene_15 {d : Nat} {E : pEv} {ro : Nat → Nat → Int32} {Q : Option Value → pH → Prop} (s_E : oE E) {x1 : Int32} {x2 : Int32} {v3 : Value} {xs0 : Int32} : wG d 98 (15, [.ref 10, .int x1, .int x2, v3], [.int xs0], mkH E ro) Q = (if xs0 = 0 then wX d 136 [.ref 10, .int (-1000000001)] (mkH E ro) (fun v h' => wG d 98 (24, [.ref 10, .int x1, .int x2, v3], pv v [], h') Q) else wX d 26 [.ref 11] (mkH E ro) (fun v h' => wG d 98 (32, [.ref 10, .int x1, .int x2, v3], pv v [], h') Q)) := by
  refine (r_if_ne rfl rfl rfl).trans ?_
  refine ite_congr rfl (fun h_0 => ?_) (fun h_0 => ?_)
  · refine (r_aload_n rfl rfl rfl).trans ?_
    refine (r_ldc (v := (-1000000001)) rfl rfl rfl).trans ?_
    exact r_inv (m := 136) (c := 9) rfl rfl rfl rfl rfl rfl rfl rfl
  · refine (r_aload_n rfl rfl rfl).trans ?_
    refine (r_getR (ci := 9) (sl := 0) s_E rfl rfl rfl rfl (by decide) rfl rfl).trans ?_
    exact r_inv (m := 26) (c := 2) rfl rfl rfl rfl rfl rfl rfl rfl

theorem sg_X9_ofScene_24 {d : Nat} {E : pEv} {ro : Nat → Nat → Int32} {Q : Option Value → pH → Prop} (s_E : oE E) {x1 : Int32} {x2 : Int32} {v3 : Value} {xs0 : Int32} : wG d 98 (24, [.ref 10, .int x1, .int x2, v3], [.int xs0], mkH E ro) Q = Q (some (.int xs0)) (mkH E ro) := by
  exact r_iret rfl rfl

theorem sg_X9_ofScene_32 {d : Nat} {E : pEv} {ro : Nat → Nat → Int32} {Q : Option Value → pH → Prop} (s_E : oE E) {x1 : Int32} {x2 : Int32} {v3 : Value} {xs0 : Int32} : wG d 98 (32, [.ref 10, .int x1, .int x2, v3], [.int xs0], mkH E ro) Q = (if x2 = 7 then Q (some (.int ((xs0 >>> (x1 &&& 31)) &&& 1))) (mkH E ro) else (if x2 = 8 then wX d 20 [.ref 11, .int x1] (mkH E ro) (fun v h' => wG d 98 (104, [.ref 10, .int x1, .int x2, .int xs0], pv v [], h') Q) else (if x2 = 9 then wX d 28 [.ref 11, .int x1, .int xs0] (mkH E ro) (fun v h' => wG d 98 (79, [.ref 10, .int x1, .int x2, .int xs0], pv v [], h') Q) else (if x2 = 10 then wX d 29 [.ref 11, .int x1, .int xs0] (mkH E ro) (fun v h' => wG d 98 (92, [.ref 10, .int x1, .int x2, .int xs0], pv v [], h') Q) else wX d 20 [.ref 11, .int x1] (mkH E ro) (fun v h' => wG d 98 (104, [.ref 10, .int x1, .int x2, .int xs0], pv v [], h') Q))))) := by
  refine (r_istore_n rfl rfl rfl rfl).trans ?_
  refine (r_iload_n rfl rfl rfl).trans ?_
  refine (r_sw (i := (62, 7, 10)) rfl rfl).trans ?_
  refine (r_swc (y := 7) rfl).trans ?_
  refine ite_congr rfl (fun h_0 => ?_) (fun h_0 => ?_)
  · refine (r_iload_n rfl rfl rfl).trans ?_
    refine (r_iload_n rfl rfl rfl).trans ?_
    refine (r_ishr rfl rfl).trans ?_
    refine (r_iconst (v := 1) rfl rfl rfl).trans ?_
    refine (r_iand rfl rfl).trans ?_
    exact r_iret rfl rfl
  · refine (r_swc (y := 8) rfl).trans ?_
    refine ite_congr rfl (fun h_1 => ?_) (fun h_1 => ?_)
    · refine (r_aload_n rfl rfl rfl).trans ?_
      refine (r_getR (ci := 9) (sl := 0) s_E rfl rfl rfl rfl (by decide) rfl rfl).trans ?_
      refine (r_iload_n rfl rfl rfl).trans ?_
      exact r_inv (m := 20) (c := 2) rfl rfl rfl rfl rfl rfl rfl rfl
    · refine (r_swc (y := 9) rfl).trans ?_
      refine ite_congr rfl (fun h_2 => ?_) (fun h_2 => ?_)
      · refine (r_aload_n rfl rfl rfl).trans ?_
        refine (r_getR (ci := 9) (sl := 0) s_E rfl rfl rfl rfl (by decide) rfl rfl).trans ?_
        refine (r_iload_n rfl rfl rfl).trans ?_
        refine (r_iload_n rfl rfl rfl).trans ?_
        exact r_inv (m := 28) (c := 2) rfl rfl rfl rfl rfl rfl rfl rfl
      · refine (r_swc (y := 10) rfl).trans ?_
        refine ite_congr rfl (fun h_3 => ?_) (fun h_3 => ?_)
        · refine (r_aload_n rfl rfl rfl).trans ?_
          refine (r_getR (ci := 9) (sl := 0) s_E rfl rfl rfl rfl (by decide) rfl rfl).trans ?_
          refine (r_iload_n rfl rfl rfl).trans ?_
          refine (r_iload_n rfl rfl rfl).trans ?_
          exact r_inv (m := 29) (c := 2) rfl rfl rfl rfl rfl rfl rfl rfl
        · refine r_swn.trans ?_
          refine (r_aload_n rfl rfl rfl).trans ?_
          refine (r_getR (ci := 9) (sl := 0) s_E rfl rfl rfl rfl (by decide) rfl rfl).trans ?_
          refine (r_iload_n rfl rfl rfl).trans ?_
          exact r_inv (m := 20) (c := 2) rfl rfl rfl rfl rfl rfl rfl rfl

theorem sg_X9_ofScene_79 {d : Nat} {E : pEv} {ro : Nat → Nat → Int32} {Q : Option Value → pH → Prop} (s_E : oE E) {x1 : Int32} {x2 : Int32} {x3 : Int32} {xs0 : Int32} : wG d 98 (79, [.ref 10, .int x1, .int x2, .int x3], [.int xs0], mkH E ro) Q = wX d 149 [.int xs0] (mkH E ro) (fun v h' => wG d 98 (82, [.ref 10, .int x1, .int x2, .int x3], pv v [], h') Q) := by
  exact r_ins (m := 149) rfl rfl rfl rfl rfl rfl

theorem sg_X9_ofScene_82 {d : Nat} {E : pEv} {ro : Nat → Nat → Int32} {Q : Option Value → pH → Prop} (s_E : oE E) {x1 : Int32} {x2 : Int32} {x3 : Int32} {xs0 : Int32} : wG d 98 (82, [.ref 10, .int x1, .int x2, .int x3], [.int xs0], mkH E ro) Q = Q (some (.int xs0)) (mkH E ro) := by
  exact r_iret rfl rfl

theorem sg_X9_ofScene_92 {d : Nat} {E : pEv} {ro : Nat → Nat → Int32} {Q : Option Value → pH → Prop} (s_E : oE E) {x1 : Int32} {x2 : Int32} {x3 : Int32} {xs0 : Int32} : wG d 98 (92, [.ref 10, .int x1, .int x2, .int x3], [.int xs0], mkH E ro) Q = wX d 148 [.int xs0] (mkH E ro) (fun v h' => wG d 98 (95, [.ref 10, .int x1, .int x2, .int x3], pv v [], h') Q) := by
  exact r_ins (m := 148) rfl rfl rfl rfl rfl rfl

theorem sg_X9_ofScene_95 {d : Nat} {E : pEv} {ro : Nat → Nat → Int32} {Q : Option Value → pH → Prop} (s_E : oE E) {x1 : Int32} {x2 : Int32} {x3 : Int32} {xs0 : Int32} : wG d 98 (95, [.ref 10, .int x1, .int x2, .int x3], [.int xs0], mkH E ro) Q = Q (some (.int xs0)) (mkH E ro) := by
  exact r_iret rfl rfl

theorem sg_X9_ofScene_104 {d : Nat} {E : pEv} {ro : Nat → Nat → Int32} {Q : Option Value → pH → Prop} (s_E : oE E) {x1 : Int32} {x2 : Int32} {x3 : Int32} {rs0 : Nat} (hs0 : oScene rs0) : wG d 98 (104, [.ref 10, .int x1, .int x2, .int x3], [.ref rs0], mkH E ro) Q = wX d 75 [.ref rs0, .int x2] (mkH E ro) (fun v h' => wG d 98 (108, [.ref 10, .int x1, .int x2, .int x3], pv v [], h') Q) := by
  refine (r_iload_n rfl rfl rfl).trans ?_
  exact r_inv (m := 75) (c := 5) rfl rfl rfl rfl rfl rfl hs0.2.1 rfl

theorem sg_X9_ofScene_108 {d : Nat} {E : pEv} {ro : Nat → Nat → Int32} {Q : Option Value → pH → Prop} (s_E : oE E) {x1 : Int32} {x2 : Int32} {x3 : Int32} {xs0 : Int32} : wG d 98 (108, [.ref 10, .int x1, .int x2, .int x3], [.int xs0], mkH E ro) Q = Q (some (.int xs0)) (mkH E ro) := by
  exact r_iret rfl rfl

theorem en_X9_become {d : Nat} {E : pEv} {ro : Nat → Nat → Int32} {Q : Option Value → pH → Prop} (s_E : oE E) {x1 : Int32} {x2 : Int32} : wX (d + 1) 99 [.ref 10, .int x1, .int x2] (mkH E ro) Q = wX d 137 [.ref 10, .int x1] (mkH E ro) (fun v h' => wG d 99 (5, [.ref 10, .int x1, .int x2, .retAddr 0, .retAddr 0], pv v [], h') Q) := by
  refine (wX_in rfl (by decide)).trans ?_
  show wG d 99 (0, [.ref 10, .int x1, .int x2, .retAddr 0, .retAddr 0], [], mkH E ro) Q = _
  refine (r_aload_n rfl rfl rfl).trans ?_
  refine (r_iload_n rfl rfl rfl).trans ?_
  exact r_inv (m := 137) (c := 9) rfl rfl rfl rfl rfl rfl rfl rfl

theorem sg_X9_become_5 {d : Nat} {E : pEv} {ro : Nat → Nat → Int32} {Q : Option Value → pH → Prop} (s_E : oE E) {x1 : Int32} {x2 : Int32} {v3 : Value} {v4 : Value} {xs0 : Int32} : wG d 99 (5, [.ref 10, .int x1, .int x2, v3, v4], [.int xs0], mkH E ro) Q = (if xs0 = 0 then wX d 136 [.ref 10, .int (-1000000001)] (mkH E ro) (fun v h' => wG d 99 (21, [.ref 10, .int x1, .int x2, v3, v4], pv v [], h') Q) else wX d 140 [.int x2] (mkH E ro) (fun v h' => wG d 99 (12, [.ref 10, .int x1, .int x2, v3, v4], pv v [], h') Q)) := by
  refine (r_if_eq rfl rfl rfl).trans ?_
  refine ite_congr rfl (fun h_0 => ?_) (fun h_0 => ?_)
  · refine (r_aload_n rfl rfl rfl).trans ?_
    refine (r_ldc (v := (-1000000001)) rfl rfl rfl).trans ?_
    exact r_inv (m := 136) (c := 9) rfl rfl rfl rfl rfl rfl rfl rfl
  · refine (r_iload_n rfl rfl rfl).trans ?_
    exact r_ins (m := 140) rfl rfl rfl rfl rfl rfl

theorem sg_X9_become_12 {d : Nat} {E : pEv} {ro : Nat → Nat → Int32} {Q : Option Value → pH → Prop} (s_E : oE E) {x1 : Int32} {x2 : Int32} {v3 : Value} {v4 : Value} {xs0 : Int32} : wG d 99 (12, [.ref 10, .int x1, .int x2, v3, v4], [.int xs0], mkH E ro) Q = (if xs0 = 0 then wX d 136 [.ref 10, .int (-1000000001)] (mkH E ro) (fun v h' => wG d 99 (21, [.ref 10, .int x1, .int x2, v3, v4], pv v [], h') Q) else wX d 20 [.ref 11, .int x1] (mkH E ro) (fun v h' => wG d 99 (30, [.ref 10, .int x1, .int x2, v3, v4], pv v [], h') Q)) := by
  refine (r_if_ne rfl rfl rfl).trans ?_
  refine ite_congr rfl (fun h_0 => ?_) (fun h_0 => ?_)
  · refine (r_aload_n rfl rfl rfl).trans ?_
    refine (r_ldc (v := (-1000000001)) rfl rfl rfl).trans ?_
    exact r_inv (m := 136) (c := 9) rfl rfl rfl rfl rfl rfl rfl rfl
  · refine (r_aload_n rfl rfl rfl).trans ?_
    refine (r_getR (ci := 9) (sl := 0) s_E rfl rfl rfl rfl (by decide) rfl rfl).trans ?_
    refine (r_iload_n rfl rfl rfl).trans ?_
    exact r_inv (m := 20) (c := 2) rfl rfl rfl rfl rfl rfl rfl rfl

theorem sg_X9_become_21 {d : Nat} {E : pEv} {ro : Nat → Nat → Int32} {Q : Option Value → pH → Prop} (s_E : oE E) {x1 : Int32} {x2 : Int32} {v3 : Value} {v4 : Value} {xs0 : Int32} : wG d 99 (21, [.ref 10, .int x1, .int x2, v3, v4], [.int xs0], mkH E ro) Q = Q (some (.int xs0)) (mkH E ro) := by
  exact r_iret rfl rfl

theorem sg_X9_become_30 {d : Nat} {E : pEv} {ro : Nat → Nat → Int32} {Q : Option Value → pH → Prop} (s_E : oE E) {x1 : Int32} {x2 : Int32} {v3 : Value} {v4 : Value} {rs0 : Nat} (hs0 : oScene rs0) : wG d 99 (30, [.ref 10, .int x1, .int x2, v3, v4], [.ref rs0], mkH E ro) Q = Q (some (.int (ro rs0 1))) (mkH E (uI (uI ro rs0 1 (x2 / 10)) rs0 2 (x2 - x2 / 10 * 10))) := by
  refine (r_astore_n rfl rfl rfl rfl).trans ?_
  refine (r_aload_n rfl rfl rfl).trans ?_
  refine (r_getI (ci := 5) (sl := 1) rfl rfl rfl hs0.2.1 hs0.1).trans ?_
  refine (r_istore rfl rfl rfl rfl).trans ?_
  refine (r_aload_n rfl rfl rfl).trans ?_
  refine (r_iload_n rfl rfl rfl).trans ?_
  refine (r_bipush (v := 10) rfl rfl rfl).trans ?_
  refine (r_idiv rfl rfl (by decide)).trans ?_
  refine (r_putI (ci := 5) (sl := 1) rfl rfl rfl hs0.2.1 hs0.1).trans ?_
  refine (r_aload_n rfl rfl rfl).trans ?_
  refine (r_iload_n rfl rfl rfl).trans ?_
  refine (r_bipush (v := 10) rfl rfl rfl).trans ?_
  refine (r_irem rfl rfl (by decide)).trans ?_
  refine (r_putI (ci := 5) (sl := 2) rfl rfl rfl hs0.2.1 hs0.1).trans ?_
  refine (r_iload rfl rfl rfl).trans ?_
  exact r_iret rfl rfl

theorem en_X9_as {d : Nat} {E : pEv} {ro : Nat → Nat → Int32} {Q : Option Value → pH → Prop} (s_E : oE E) {x1 : Int32} {x2 : Int32} : wX (d + 1) 100 [.ref 10, .int x1, .int x2] (mkH E ro) Q = wX d 137 [.ref 10, .int x1] (mkH E ro) (fun v h' => wG d 100 (5, [.ref 10, .int x1, .int x2], pv v [], h') Q) := by
  refine (wX_in rfl (by decide)).trans ?_
  show wG d 100 (0, [.ref 10, .int x1, .int x2], [], mkH E ro) Q = _
  refine (r_aload_n rfl rfl rfl).trans ?_
  refine (r_iload_n rfl rfl rfl).trans ?_
  exact r_inv (m := 137) (c := 9) rfl rfl rfl rfl rfl rfl rfl rfl

theorem sg_X9_as_5 {d : Nat} {E : pEv} {ro : Nat → Nat → Int32} {Q : Option Value → pH → Prop} (s_E : oE E) {x1 : Int32} {x2 : Int32} {xs0 : Int32} : wG d 100 (5, [.ref 10, .int x1, .int x2], [.int xs0], mkH E ro) Q = (if xs0 = 0 then wX d 136 [.ref 10, .int (-1000000001)] (mkH E ro) (fun v h' => wG d 100 (24, [.ref 10, .int x1, .int x2], pv v [], h') Q) else wX d 146 [.int x2, .int 0, .int 6] (mkH E ro) (fun v h' => wG d 100 (15, [.ref 10, .int x1, .int x2], pv v [], h') Q)) := by
  refine (r_if_eq rfl rfl rfl).trans ?_
  refine ite_congr rfl (fun h_0 => ?_) (fun h_0 => ?_)
  · refine (r_aload_n rfl rfl rfl).trans ?_
    refine (r_ldc (v := (-1000000001)) rfl rfl rfl).trans ?_
    exact r_inv (m := 136) (c := 9) rfl rfl rfl rfl rfl rfl rfl rfl
  · refine (r_iload_n rfl rfl rfl).trans ?_
    refine (r_iconst (v := 0) rfl rfl rfl).trans ?_
    refine (r_bipush (v := 6) rfl rfl rfl).trans ?_
    exact r_ins (m := 146) rfl rfl rfl rfl rfl rfl

theorem sg_X9_as_15 {d : Nat} {E : pEv} {ro : Nat → Nat → Int32} {Q : Option Value → pH → Prop} (s_E : oE E) {x1 : Int32} {x2 : Int32} {xs0 : Int32} : wG d 100 (15, [.ref 10, .int x1, .int x2], [.int xs0], mkH E ro) Q = (if xs0 = 0 then wX d 136 [.ref 10, .int (-1000000001)] (mkH E ro) (fun v h' => wG d 100 (24, [.ref 10, .int x1, .int x2], pv v [], h') Q) else wX d 20 [.ref 11, .int x1] (mkH E ro) (fun v h' => wG d 100 (33, [.ref 10, .int x1, .int x2], pv v [], h') Q)) := by
  refine (r_if_ne rfl rfl rfl).trans ?_
  refine ite_congr rfl (fun h_0 => ?_) (fun h_0 => ?_)
  · refine (r_aload_n rfl rfl rfl).trans ?_
    refine (r_ldc (v := (-1000000001)) rfl rfl rfl).trans ?_
    exact r_inv (m := 136) (c := 9) rfl rfl rfl rfl rfl rfl rfl rfl
  · refine (r_aload_n rfl rfl rfl).trans ?_
    refine (r_getR (ci := 9) (sl := 0) s_E rfl rfl rfl rfl (by decide) rfl rfl).trans ?_
    refine (r_iload_n rfl rfl rfl).trans ?_
    exact r_inv (m := 20) (c := 2) rfl rfl rfl rfl rfl rfl rfl rfl

theorem sg_X9_as_24 {d : Nat} {E : pEv} {ro : Nat → Nat → Int32} {Q : Option Value → pH → Prop} (s_E : oE E) {x1 : Int32} {x2 : Int32} {xs0 : Int32} : wG d 100 (24, [.ref 10, .int x1, .int x2], [.int xs0], mkH E ro) Q = Q (some (.int xs0)) (mkH E ro) := by
  exact r_iret rfl rfl

theorem sg_X9_as_33 {d : Nat} {E : pEv} {ro : Nat → Nat → Int32} {Q : Option Value → pH → Prop} (s_E : oE E) {x1 : Int32} {x2 : Int32} {rs0 : Nat} (hs0 : oScene rs0) : wG d 100 (33, [.ref 10, .int x1, .int x2], [.ref rs0], mkH E ro) Q = wX d 151 [.int (ro rs0 1), .int x2] (mkH E ro) (fun v h' => wG d 100 (40, [.ref 10, .int x1, .int x2], pv v [], h') Q) := by
  refine (r_getI (ci := 5) (sl := 1) rfl rfl rfl hs0.2.1 hs0.1).trans ?_
  refine (r_iload_n rfl rfl rfl).trans ?_
  exact r_ins (m := 151) rfl rfl rfl rfl rfl rfl

theorem sg_X9_as_40 {d : Nat} {E : pEv} {ro : Nat → Nat → Int32} {Q : Option Value → pH → Prop} (s_E : oE E) {x1 : Int32} {x2 : Int32} {xs0 : Int32} : wG d 100 (40, [.ref 10, .int x1, .int x2], [.int xs0], mkH E ro) Q = (if xs0 = 0 then wX d 136 [.ref 10, .int (-1000000005)] (mkH E ro) (fun v h' => wG d 100 (49, [.ref 10, .int x1, .int x2], pv v [], h') Q) else wX d 20 [.ref 11, .int x1] (mkH E ro) (fun v h' => wG d 100 (58, [.ref 10, .int x1, .int x2], pv v [], h') Q)) := by
  refine (r_if_ne rfl rfl rfl).trans ?_
  refine ite_congr rfl (fun h_0 => ?_) (fun h_0 => ?_)
  · refine (r_aload_n rfl rfl rfl).trans ?_
    refine (r_ldc (v := (-1000000005)) rfl rfl rfl).trans ?_
    exact r_inv (m := 136) (c := 9) rfl rfl rfl rfl rfl rfl rfl rfl
  · refine (r_aload_n rfl rfl rfl).trans ?_
    refine (r_getR (ci := 9) (sl := 0) s_E rfl rfl rfl rfl (by decide) rfl rfl).trans ?_
    refine (r_iload_n rfl rfl rfl).trans ?_
    exact r_inv (m := 20) (c := 2) rfl rfl rfl rfl rfl rfl rfl rfl

theorem sg_X9_as_49 {d : Nat} {E : pEv} {ro : Nat → Nat → Int32} {Q : Option Value → pH → Prop} (s_E : oE E) {x1 : Int32} {x2 : Int32} {xs0 : Int32} : wG d 100 (49, [.ref 10, .int x1, .int x2], [.int xs0], mkH E ro) Q = Q (some (.int xs0)) (mkH E ro) := by
  exact r_iret rfl rfl

theorem sg_X9_as_58 {d : Nat} {E : pEv} {ro : Nat → Nat → Int32} {Q : Option Value → pH → Prop} (s_E : oE E) {x1 : Int32} {x2 : Int32} {rs0 : Nat} (hs0 : oScene rs0) : wG d 100 (58, [.ref 10, .int x1, .int x2], [.ref rs0], mkH E ro) Q = Q (some (.int (ro rs0 2))) (mkH E ro) := by
  refine (r_getI (ci := 5) (sl := 2) rfl rfl rfl hs0.2.1 hs0.1).trans ?_
  exact r_iret rfl rfl

theorem en_X9_set {d : Nat} {E : pEv} {ro : Nat → Nat → Int32} {Q : Option Value → pH → Prop} (s_E : oE E) {x1 : Int32} {x2 : Int32} {x3 : Int32} : wX (d + 1) 101 [.ref 10, .int x1, .int x2, .int x3] (mkH E ro) Q = wX d 137 [.ref 10, .int x1] (mkH E ro) (fun v h' => wG d 101 (5, [.ref 10, .int x1, .int x2, .int x3], pv v [], h') Q) := by
  refine (wX_in rfl (by decide)).trans ?_
  show wG d 101 (0, [.ref 10, .int x1, .int x2, .int x3], [], mkH E ro) Q = _
  refine (r_aload_n rfl rfl rfl).trans ?_
  refine (r_iload_n rfl rfl rfl).trans ?_
  exact r_inv (m := 137) (c := 9) rfl rfl rfl rfl rfl rfl rfl rfl

theorem sg_X9_set_5 {d : Nat} {E : pEv} {ro : Nat → Nat → Int32} {Q : Option Value → pH → Prop} (s_E : oE E) {x1 : Int32} {x2 : Int32} {x3 : Int32} {xs0 : Int32} : wG d 101 (5, [.ref 10, .int x1, .int x2, .int x3], [.int xs0], mkH E ro) Q = (if xs0 = 0 then wX d 136 [.ref 10, .int (-1000000001)] (mkH E ro) (fun v h' => wG d 101 (22, [.ref 10, .int x1, .int x2, .int x3], pv v [], h') Q) else wX d 76 [.int x2, .int x3] (mkH E ro) (fun v h' => wG d 101 (13, [.ref 10, .int x1, .int x2, .int x3], pv v [], h') Q)) := by
  refine (r_if_eq rfl rfl rfl).trans ?_
  refine ite_congr rfl (fun h_0 => ?_) (fun h_0 => ?_)
  · refine (r_aload_n rfl rfl rfl).trans ?_
    refine (r_ldc (v := (-1000000001)) rfl rfl rfl).trans ?_
    exact r_inv (m := 136) (c := 9) rfl rfl rfl rfl rfl rfl rfl rfl
  · refine (r_iload_n rfl rfl rfl).trans ?_
    refine (r_iload_n rfl rfl rfl).trans ?_
    exact r_ins (m := 76) rfl rfl rfl rfl rfl rfl

theorem sg_X9_set_13 {d : Nat} {E : pEv} {ro : Nat → Nat → Int32} {Q : Option Value → pH → Prop} (s_E : oE E) {x1 : Int32} {x2 : Int32} {x3 : Int32} {xs0 : Int32} : wG d 101 (13, [.ref 10, .int x1, .int x2, .int x3], [.int xs0], mkH E ro) Q = (if xs0 = 0 then wX d 136 [.ref 10, .int (-1000000001)] (mkH E ro) (fun v h' => wG d 101 (22, [.ref 10, .int x1, .int x2, .int x3], pv v [], h') Q) else wX d 20 [.ref 11, .int x1] (mkH E ro) (fun v h' => wG d 101 (31, [.ref 10, .int x1, .int x2, .int x3], pv v [], h') Q)) := by
  refine (r_if_ne rfl rfl rfl).trans ?_
  refine ite_congr rfl (fun h_0 => ?_) (fun h_0 => ?_)
  · refine (r_aload_n rfl rfl rfl).trans ?_
    refine (r_ldc (v := (-1000000001)) rfl rfl rfl).trans ?_
    exact r_inv (m := 136) (c := 9) rfl rfl rfl rfl rfl rfl rfl rfl
  · refine (r_aload_n rfl rfl rfl).trans ?_
    refine (r_getR (ci := 9) (sl := 0) s_E rfl rfl rfl rfl (by decide) rfl rfl).trans ?_
    refine (r_iload_n rfl rfl rfl).trans ?_
    exact r_inv (m := 20) (c := 2) rfl rfl rfl rfl rfl rfl rfl rfl

theorem sg_X9_set_22 {d : Nat} {E : pEv} {ro : Nat → Nat → Int32} {Q : Option Value → pH → Prop} (s_E : oE E) {x1 : Int32} {x2 : Int32} {x3 : Int32} {xs0 : Int32} : wG d 101 (22, [.ref 10, .int x1, .int x2, .int x3], [.int xs0], mkH E ro) Q = Q (some (.int xs0)) (mkH E ro) := by
  exact r_iret rfl rfl

theorem sg_X9_set_31 {d : Nat} {E : pEv} {ro : Nat → Nat → Int32} {Q : Option Value → pH → Prop} (s_E : oE E) {x1 : Int32} {x2 : Int32} {x3 : Int32} {rs0 : Nat} (hs0 : oScene rs0) : wG d 101 (31, [.ref 10, .int x1, .int x2, .int x3], [.ref rs0], mkH E ro) Q = wX d 77 [.ref rs0, .int x2, .int x3] (mkH E ro) (fun v h' => wG d 101 (36, [.ref 10, .int x1, .int x2, .int x3], pv v [], h') Q) := by
  refine (r_iload_n rfl rfl rfl).trans ?_
  refine (r_iload_n rfl rfl rfl).trans ?_
  exact r_inv (m := 77) (c := 5) rfl rfl rfl rfl rfl rfl hs0.2.1 rfl

theorem sg_X9_set_36 {d : Nat} {E : pEv} {ro : Nat → Nat → Int32} {Q : Option Value → pH → Prop} (s_E : oE E) {x1 : Int32} {x2 : Int32} {x3 : Int32} {xs0 : Int32} : wG d 101 (36, [.ref 10, .int x1, .int x2, .int x3], [.int xs0], mkH E ro) Q = Q (some (.int xs0)) (mkH E ro) := by
  exact r_iret rfl rfl

theorem en_X9_comes {d : Nat} {E : pEv} {ro : Nat → Nat → Int32} {Q : Option Value → pH → Prop} (s_E : oE E) : wX (d + 1) 102 [.ref 10] (mkH E ro) Q = wX d 26 [.ref 11] (mkH E ro) (fun v h' => wG d 102 (7, [.ref 10], pv v [], h') Q) := by
  refine (wX_in rfl (by decide)).trans ?_
  show wG d 102 (0, [.ref 10], [], mkH E ro) Q = _
  refine (r_aload_n rfl rfl rfl).trans ?_
  refine (r_getR (ci := 9) (sl := 0) s_E rfl rfl rfl rfl (by decide) rfl rfl).trans ?_
  exact r_inv (m := 26) (c := 2) rfl rfl rfl rfl rfl rfl rfl rfl

theorem sg_X9_comes_7 {d : Nat} {E : pEv} {ro : Nat → Nat → Int32} {Q : Option Value → pH → Prop} (s_E : oE E) {xs0 : Int32} : wG d 102 (7, [.ref 10], [.int xs0], mkH E ro) Q = Q (some (.int xs0)) (mkH E ro) := by
  exact r_iret rfl rfl

theorem en_X9_given {d : Nat} {E : pEv} {ro : Nat → Nat → Int32} {Q : Option Value → pH → Prop} (s_E : oE E) {x1 : Int32} : wX (d + 1) 103 [.ref 10, .int x1] (mkH E ro) Q = wX d 138 [.ref 10, .int x1] (mkH E ro) (fun v h' => wG d 103 (5, [.ref 10, .int x1], pv v [], h') Q) := by
  refine (wX_in rfl (by decide)).trans ?_
  show wG d 103 (0, [.ref 10, .int x1], [], mkH E ro) Q = _
  refine (r_aload_n rfl rfl rfl).trans ?_
  refine (r_iload_n rfl rfl rfl).trans ?_
  exact r_inv (m := 138) (c := 9) rfl rfl rfl rfl rfl rfl rfl rfl

theorem sg_X9_given_5 {d : Nat} {E : pEv} {ro : Nat → Nat → Int32} {Q : Option Value → pH → Prop} (s_E : oE E) {x1 : Int32} {xs0 : Int32} : wG d 103 (5, [.ref 10, .int x1], [.int xs0], mkH E ro) Q = (if xs0 = 0 then wX d 136 [.ref 10, .int (-1000000001)] (mkH E ro) (fun v h' => wG d 103 (14, [.ref 10, .int x1], pv v [], h') Q) else wX d 57 [.ref 32, .int x1] (mkH E ro) (fun v h' => wG d 103 (26, [.ref 10, .int x1], pv v [], h') Q)) := by
  refine (r_if_ne rfl rfl rfl).trans ?_
  refine ite_congr rfl (fun h_0 => ?_) (fun h_0 => ?_)
  · refine (r_aload_n rfl rfl rfl).trans ?_
    refine (r_ldc (v := (-1000000001)) rfl rfl rfl).trans ?_
    exact r_inv (m := 136) (c := 9) rfl rfl rfl rfl rfl rfl rfl rfl
  · refine (r_aload_n rfl rfl rfl).trans ?_
    refine (r_getR (ci := 9) (sl := 0) s_E rfl rfl rfl rfl (by decide) rfl rfl).trans ?_
    refine (r_getR (ci := 2) (sl := 4) s_E rfl rfl rfl rfl (by decide) rfl rfl).trans ?_
    refine (r_iload_n rfl rfl rfl).trans ?_
    exact r_inv (m := 57) (c := 4) rfl rfl rfl rfl rfl rfl rfl rfl

theorem sg_X9_given_14 {d : Nat} {E : pEv} {ro : Nat → Nat → Int32} {Q : Option Value → pH → Prop} (s_E : oE E) {x1 : Int32} {xs0 : Int32} : wG d 103 (14, [.ref 10, .int x1], [.int xs0], mkH E ro) Q = Q (some (.int xs0)) (mkH E ro) := by
  exact r_iret rfl rfl

theorem sg_X9_given_26 {d : Nat} {E : pEv} {ro : Nat → Nat → Int32} {Q : Option Value → pH → Prop} (s_E : oE E) {x1 : Int32} {xs0 : Int32} : wG d 103 (26, [.ref 10, .int x1], [.int xs0], mkH E ro) Q = Q (some (.int xs0)) (mkH E ro) := by
  exact r_iret rfl rfl

theorem en_X9_place {d : Nat} {E : pEv} {ro : Nat → Nat → Int32} {Q : Option Value → pH → Prop} (s_E : oE E) {x1 : Int32} {x2 : Int32} : wX (d + 1) 104 [.ref 10, .int x1, .int x2] (mkH E ro) Q = wX d 137 [.ref 10, .int x1] (mkH E ro) (fun v h' => wG d 104 (5, [.ref 10, .int x1, .int x2, .retAddr 0], pv v [], h') Q) := by
  refine (wX_in rfl (by decide)).trans ?_
  show wG d 104 (0, [.ref 10, .int x1, .int x2, .retAddr 0], [], mkH E ro) Q = _
  refine (r_aload_n rfl rfl rfl).trans ?_
  refine (r_iload_n rfl rfl rfl).trans ?_
  exact r_inv (m := 137) (c := 9) rfl rfl rfl rfl rfl rfl rfl rfl

theorem sg_X9_place_5 {d : Nat} {E : pEv} {ro : Nat → Nat → Int32} {Q : Option Value → pH → Prop} (s_E : oE E) {x1 : Int32} {x2 : Int32} {v3 : Value} {xs0 : Int32} : wG d 104 (5, [.ref 10, .int x1, .int x2, v3], [.int xs0], mkH E ro) Q = (if xs0 = 0 then wX d 136 [.ref 10, .int (-1000000001)] (mkH E ro) (fun v h' => wG d 104 (22, [.ref 10, .int x1, .int x2, v3], pv v [], h') Q) else wX d 138 [.ref 10, .int x2] (mkH E ro) (fun v h' => wG d 104 (13, [.ref 10, .int x1, .int x2, v3], pv v [], h') Q)) := by
  refine (r_if_eq rfl rfl rfl).trans ?_
  refine ite_congr rfl (fun h_0 => ?_) (fun h_0 => ?_)
  · refine (r_aload_n rfl rfl rfl).trans ?_
    refine (r_ldc (v := (-1000000001)) rfl rfl rfl).trans ?_
    exact r_inv (m := 136) (c := 9) rfl rfl rfl rfl rfl rfl rfl rfl
  · refine (r_aload_n rfl rfl rfl).trans ?_
    refine (r_iload_n rfl rfl rfl).trans ?_
    exact r_inv (m := 138) (c := 9) rfl rfl rfl rfl rfl rfl rfl rfl

theorem sg_X9_place_13 {d : Nat} {E : pEv} {ro : Nat → Nat → Int32} {Q : Option Value → pH → Prop} (s_E : oE E) {x1 : Int32} {x2 : Int32} {v3 : Value} {xs0 : Int32} : wG d 104 (13, [.ref 10, .int x1, .int x2, v3], [.int xs0], mkH E ro) Q = (if xs0 = 0 then wX d 136 [.ref 10, .int (-1000000001)] (mkH E ro) (fun v h' => wG d 104 (22, [.ref 10, .int x1, .int x2, v3], pv v [], h') Q) else wX d 63 [.ref 32, .int x1] (mkH E ro) (fun v h' => wG d 104 (34, [.ref 10, .int x1, .int x2, v3], pv v [], h') Q)) := by
  refine (r_if_ne rfl rfl rfl).trans ?_
  refine ite_congr rfl (fun h_0 => ?_) (fun h_0 => ?_)
  · refine (r_aload_n rfl rfl rfl).trans ?_
    refine (r_ldc (v := (-1000000001)) rfl rfl rfl).trans ?_
    exact r_inv (m := 136) (c := 9) rfl rfl rfl rfl rfl rfl rfl rfl
  · refine (r_aload_n rfl rfl rfl).trans ?_
    refine (r_getR (ci := 9) (sl := 0) s_E rfl rfl rfl rfl (by decide) rfl rfl).trans ?_
    refine (r_getR (ci := 2) (sl := 4) s_E rfl rfl rfl rfl (by decide) rfl rfl).trans ?_
    refine (r_iload_n rfl rfl rfl).trans ?_
    exact r_inv (m := 63) (c := 4) rfl rfl rfl rfl rfl rfl rfl rfl

theorem sg_X9_place_22 {d : Nat} {E : pEv} {ro : Nat → Nat → Int32} {Q : Option Value → pH → Prop} (s_E : oE E) {x1 : Int32} {x2 : Int32} {v3 : Value} {xs0 : Int32} : wG d 104 (22, [.ref 10, .int x1, .int x2, v3], [.int xs0], mkH E ro) Q = Q (some (.int xs0)) (mkH E ro) := by
  exact r_iret rfl rfl

theorem sg_X9_place_34 {d : Nat} {E : pEv} {ro : Nat → Nat → Int32} {Q : Option Value → pH → Prop} (s_E : oE E) {x1 : Int32} {x2 : Int32} {v3 : Value} {xs0 : Int32} : wG d 104 (34, [.ref 10, .int x1, .int x2, v3], [.int xs0], mkH E ro) Q = wX d 62 [.ref 32, .int xs0] (mkH E ro) (fun v h' => wG d 104 (46, [.ref 10, .int x1, .int x2, .int xs0], pv v [], h') Q) := by
  refine (r_istore_n rfl rfl rfl rfl).trans ?_
  refine (r_aload_n rfl rfl rfl).trans ?_
  refine (r_getR (ci := 9) (sl := 0) s_E rfl rfl rfl rfl (by decide) rfl rfl).trans ?_
  refine (r_getR (ci := 2) (sl := 4) s_E rfl rfl rfl rfl (by decide) rfl rfl).trans ?_
  refine (r_iload_n rfl rfl rfl).trans ?_
  exact r_inv (m := 62) (c := 4) rfl rfl rfl rfl rfl rfl rfl rfl

theorem sg_X9_place_46 {d : Nat} {E : pEv} {ro : Nat → Nat → Int32} {Q : Option Value → pH → Prop} (s_E : oE E) {x1 : Int32} {x2 : Int32} {x3 : Int32} : wG d 104 (46, [.ref 10, .int x1, .int x2, .int x3], [], mkH E ro) Q = wX d 61 [.ref 32, .int x2, .int x1] (mkH E ro) (fun v h' => wG d 104 (58, [.ref 10, .int x1, .int x2, .int x3], pv v [], h') Q) := by
  refine (r_aload_n rfl rfl rfl).trans ?_
  refine (r_getR (ci := 9) (sl := 0) s_E rfl rfl rfl rfl (by decide) rfl rfl).trans ?_
  refine (r_getR (ci := 2) (sl := 4) s_E rfl rfl rfl rfl (by decide) rfl rfl).trans ?_
  refine (r_iload_n rfl rfl rfl).trans ?_
  refine (r_iload_n rfl rfl rfl).trans ?_
  exact r_inv (m := 61) (c := 4) rfl rfl rfl rfl rfl rfl rfl rfl

theorem sg_X9_place_58 {d : Nat} {E : pEv} {ro : Nat → Nat → Int32} {Q : Option Value → pH → Prop} (s_E : oE E) {x1 : Int32} {x2 : Int32} {x3 : Int32} : wG d 104 (58, [.ref 10, .int x1, .int x2, .int x3], [], mkH E ro) Q = Q (some (.int x3)) (mkH E ro) := by
  refine (r_iload_n rfl rfl rfl).trans ?_
  exact r_iret rfl rfl

theorem en_X9_back {d : Nat} {E : pEv} {ro : Nat → Nat → Int32} {Q : Option Value → pH → Prop} (s_E : oE E) {x1 : Int32} : wX (d + 1) 105 [.ref 10, .int x1] (mkH E ro) Q = wX d 146 [.int x1, .int 0, .int 1] (mkH E ro) (fun v h' => wG d 105 (6, [.ref 10, .int x1, .retAddr 0], pv v [], h') Q) := by
  refine (wX_in rfl (by decide)).trans ?_
  show wG d 105 (0, [.ref 10, .int x1, .retAddr 0], [], mkH E ro) Q = _
  refine (r_iload_n rfl rfl rfl).trans ?_
  refine (r_iconst (v := 0) rfl rfl rfl).trans ?_
  refine (r_iconst (v := 1) rfl rfl rfl).trans ?_
  exact r_ins (m := 146) rfl rfl rfl rfl rfl rfl

theorem sg_X9_back_6 {d : Nat} {E : pEv} {ro : Nat → Nat → Int32} {Q : Option Value → pH → Prop} (s_E : oE E) {x1 : Int32} {v2 : Value} {xs0 : Int32} : wG d 105 (6, [.ref 10, .int x1, v2], [.int xs0], mkH E ro) Q = (if xs0 = 0 then wX d 136 [.ref 10, .int (-1000000001)] (mkH E ro) (fun v h' => wG d 105 (15, [.ref 10, .int x1, v2], pv v [], h') Q) else Q (some (.int (ro 11 8))) (mkH E (uI ro 11 8 x1))) := by
  refine (r_if_ne rfl rfl rfl).trans ?_
  refine ite_congr rfl (fun h_0 => ?_) (fun h_0 => ?_)
  · refine (r_aload_n rfl rfl rfl).trans ?_
    refine (r_ldc (v := (-1000000001)) rfl rfl rfl).trans ?_
    exact r_inv (m := 136) (c := 9) rfl rfl rfl rfl rfl rfl rfl rfl
  · refine (r_aload_n rfl rfl rfl).trans ?_
    refine (r_getR (ci := 9) (sl := 0) s_E rfl rfl rfl rfl (by decide) rfl rfl).trans ?_
    refine (r_getI (ci := 2) (sl := 8) rfl rfl rfl rfl (by decide)).trans ?_
    refine (r_istore_n rfl rfl rfl rfl).trans ?_
    refine (r_aload_n rfl rfl rfl).trans ?_
    refine (r_getR (ci := 9) (sl := 0) s_E rfl rfl rfl rfl (by decide) rfl rfl).trans ?_
    refine (r_iload_n rfl rfl rfl).trans ?_
    refine (r_putI (ci := 2) (sl := 8) rfl rfl rfl rfl (by decide)).trans ?_
    refine (r_iload_n rfl rfl rfl).trans ?_
    exact r_iret rfl rfl

theorem sg_X9_back_15 {d : Nat} {E : pEv} {ro : Nat → Nat → Int32} {Q : Option Value → pH → Prop} (s_E : oE E) {x1 : Int32} {v2 : Value} {xs0 : Int32} : wG d 105 (15, [.ref 10, .int x1, v2], [.int xs0], mkH E ro) Q = Q (some (.int xs0)) (mkH E ro) := by
  exact r_iret rfl rfl

theorem en_X9_guess {d : Nat} {E : pEv} {ro : Nat → Nat → Int32} {Q : Option Value → pH → Prop} (s_E : oE E) {x1 : Int32} : wX (d + 1) 106 [.ref 10, .int x1] (mkH E ro) Q = wX d 138 [.ref 10, .int x1] (mkH E ro) (fun v h' => wG d 106 (5, [.ref 10, .int x1], pv v [], h') Q) := by
  refine (wX_in rfl (by decide)).trans ?_
  show wG d 106 (0, [.ref 10, .int x1], [], mkH E ro) Q = _
  refine (r_aload_n rfl rfl rfl).trans ?_
  refine (r_iload_n rfl rfl rfl).trans ?_
  exact r_inv (m := 138) (c := 9) rfl rfl rfl rfl rfl rfl rfl rfl

theorem sg_X9_guess_5 {d : Nat} {E : pEv} {ro : Nat → Nat → Int32} {Q : Option Value → pH → Prop} (s_E : oE E) {x1 : Int32} {xs0 : Int32} : wG d 106 (5, [.ref 10, .int x1], [.int xs0], mkH E ro) Q = (if xs0 = 0 then wX d 136 [.ref 10, .int (-1000000001)] (mkH E ro) (fun v h' => wG d 106 (14, [.ref 10, .int x1], pv v [], h') Q) else wX d 32 [.ref 11, .int x1] (mkH E ro) (fun v h' => wG d 106 (23, [.ref 10, .int x1], pv v [], h') Q)) := by
  refine (r_if_ne rfl rfl rfl).trans ?_
  refine ite_congr rfl (fun h_0 => ?_) (fun h_0 => ?_)
  · refine (r_aload_n rfl rfl rfl).trans ?_
    refine (r_ldc (v := (-1000000001)) rfl rfl rfl).trans ?_
    exact r_inv (m := 136) (c := 9) rfl rfl rfl rfl rfl rfl rfl rfl
  · refine (r_aload_n rfl rfl rfl).trans ?_
    refine (r_getR (ci := 9) (sl := 0) s_E rfl rfl rfl rfl (by decide) rfl rfl).trans ?_
    refine (r_iload_n rfl rfl rfl).trans ?_
    exact r_inv (m := 32) (c := 2) rfl rfl rfl rfl rfl rfl rfl rfl

theorem sg_X9_guess_14 {d : Nat} {E : pEv} {ro : Nat → Nat → Int32} {Q : Option Value → pH → Prop} (s_E : oE E) {x1 : Int32} {xs0 : Int32} : wG d 106 (14, [.ref 10, .int x1], [.int xs0], mkH E ro) Q = Q (some (.int xs0)) (mkH E ro) := by
  exact r_iret rfl rfl

theorem sg_X9_guess_23 {d : Nat} {E : pEv} {ro : Nat → Nat → Int32} {Q : Option Value → pH → Prop} (s_E : oE E) {x1 : Int32} {xs0 : Int32} : wG d 106 (23, [.ref 10, .int x1], [.int xs0], mkH E ro) Q = Q (some (.int xs0)) (mkH E ro) := by
  exact r_iret rfl rfl

theorem en_X9_understood {d : Nat} {E : pEv} {ro : Nat → Nat → Int32} {Q : Option Value → pH → Prop} (s_E : oE E) {x1 : Int32} : wX (d + 1) 107 [.ref 10, .int x1] (mkH E ro) Q = wX d 137 [.ref 10, .int x1] (mkH E ro) (fun v h' => wG d 107 (5, [.ref 10, .int x1], pv v [], h') Q) := by
  refine (wX_in rfl (by decide)).trans ?_
  show wG d 107 (0, [.ref 10, .int x1], [], mkH E ro) Q = _
  refine (r_aload_n rfl rfl rfl).trans ?_
  refine (r_iload_n rfl rfl rfl).trans ?_
  exact r_inv (m := 137) (c := 9) rfl rfl rfl rfl rfl rfl rfl rfl

theorem sg_X9_understood_5 {d : Nat} {E : pEv} {ro : Nat → Nat → Int32} {Q : Option Value → pH → Prop} (s_E : oE E) {x1 : Int32} {xs0 : Int32} : wG d 107 (5, [.ref 10, .int x1], [.int xs0], mkH E ro) Q = (if xs0 = 0 then wX d 136 [.ref 10, .int (-1000000001)] (mkH E ro) (fun v h' => wG d 107 (14, [.ref 10, .int x1], pv v [], h') Q) else wX d 36 [.ref 11, .int x1] (mkH E ro) (fun v h' => wG d 107 (23, [.ref 10, .int x1], pv v [], h') Q)) := by
  refine (r_if_ne rfl rfl rfl).trans ?_
  refine ite_congr rfl (fun h_0 => ?_) (fun h_0 => ?_)
  · refine (r_aload_n rfl rfl rfl).trans ?_
    refine (r_ldc (v := (-1000000001)) rfl rfl rfl).trans ?_
    exact r_inv (m := 136) (c := 9) rfl rfl rfl rfl rfl rfl rfl rfl
  · refine (r_aload_n rfl rfl rfl).trans ?_
    refine (r_getR (ci := 9) (sl := 0) s_E rfl rfl rfl rfl (by decide) rfl rfl).trans ?_
    refine (r_iload_n rfl rfl rfl).trans ?_
    exact r_inv (m := 36) (c := 2) rfl rfl rfl rfl rfl rfl rfl rfl

theorem sg_X9_understood_14 {d : Nat} {E : pEv} {ro : Nat → Nat → Int32} {Q : Option Value → pH → Prop} (s_E : oE E) {x1 : Int32} {xs0 : Int32} : wG d 107 (14, [.ref 10, .int x1], [.int xs0], mkH E ro) Q = Q (some (.int xs0)) (mkH E ro) := by
  exact r_iret rfl rfl

theorem sg_X9_understood_23 {d : Nat} {E : pEv} {ro : Nat → Nat → Int32} {Q : Option Value → pH → Prop} (s_E : oE E) {x1 : Int32} {xs0 : Int32} : wG d 107 (23, [.ref 10, .int x1], [.int xs0], mkH E ro) Q = Q (some (.int xs0)) (mkH E ro) := by
  exact r_iret rfl rfl

theorem en_X9_flaw {d : Nat} {E : pEv} {ro : Nat → Nat → Int32} {Q : Option Value → pH → Prop} (s_E : oE E) : wX (d + 1) 108 [.ref 10] (mkH E ro) Q = wX d 30 [.ref 11] (mkH E ro) (fun v h' => wG d 108 (7, [.ref 10, .retAddr 0], pv v [], h') Q) := by
  refine (wX_in rfl (by decide)).trans ?_
  show wG d 108 (0, [.ref 10, .retAddr 0], [], mkH E ro) Q = _
  refine (r_aload_n rfl rfl rfl).trans ?_
  refine (r_getR (ci := 9) (sl := 0) s_E rfl rfl rfl rfl (by decide) rfl rfl).trans ?_
  exact r_inv (m := 30) (c := 2) rfl rfl rfl rfl rfl rfl rfl rfl

theorem sg_X9_flaw_7 {d : Nat} {E : pEv} {ro : Nat → Nat → Int32} {Q : Option Value → pH → Prop} (s_E : oE E) {v1 : Value} {xs0 : Int32} : wG d 108 (7, [.ref 10, v1], [.int xs0], mkH E ro) Q = (if xs0 < 0 then wX d 136 [.ref 10, .int (-1000000002)] (mkH E ro) (fun v h' => wG d 108 (18, [.ref 10, .int xs0], pv v [], h') Q) else Q (some (.int xs0)) (mkH E ro)) := by
  refine (r_istore_n rfl rfl rfl rfl).trans ?_
  refine (r_iload_n rfl rfl rfl).trans ?_
  refine (r_if_ge rfl rfl rfl).trans ?_
  refine ite_congr rfl (fun h_0 => ?_) (fun h_0 => ?_)
  · refine (r_aload_n rfl rfl rfl).trans ?_
    refine (r_ldc (v := (-1000000002)) rfl rfl rfl).trans ?_
    exact r_inv (m := 136) (c := 9) rfl rfl rfl rfl rfl rfl rfl rfl
  · refine (r_iload_n rfl rfl rfl).trans ?_
    exact r_iret rfl rfl

theorem sg_X9_flaw_18 {d : Nat} {E : pEv} {ro : Nat → Nat → Int32} {Q : Option Value → pH → Prop} (s_E : oE E) {x1 : Int32} {xs0 : Int32} : wG d 108 (18, [.ref 10, .int x1], [.int xs0], mkH E ro) Q = Q (some (.int xs0)) (mkH E ro) := by
  refine (r_goto rfl rfl).trans ?_
  exact r_iret rfl rfl

theorem en_X9_turn {d : Nat} {E : pEv} {ro : Nat → Nat → Int32} {Q : Option Value → pH → Prop} (s_E : oE E) : wX (d + 1) 109 [.ref 10] (mkH E ro) Q = wX d 65 [.ref 32] (mkH E ro) (fun v h' => wG d 109 (10, [.ref 10], pv v [], h') Q) := by
  refine (wX_in rfl (by decide)).trans ?_
  show wG d 109 (0, [.ref 10], [], mkH E ro) Q = _
  refine (r_aload_n rfl rfl rfl).trans ?_
  refine (r_getR (ci := 9) (sl := 0) s_E rfl rfl rfl rfl (by decide) rfl rfl).trans ?_
  refine (r_getR (ci := 2) (sl := 4) s_E rfl rfl rfl rfl (by decide) rfl rfl).trans ?_
  exact r_inv (m := 65) (c := 4) rfl rfl rfl rfl rfl rfl rfl rfl

theorem sg_X9_turn_10 {d : Nat} {E : pEv} {ro : Nat → Nat → Int32} {Q : Option Value → pH → Prop} (s_E : oE E) : wG d 109 (10, [.ref 10], [], mkH E ro) Q = Q (some (.int (ro 11 7))) (mkH E ro) := by
  refine (r_aload_n rfl rfl rfl).trans ?_
  refine (r_getR (ci := 9) (sl := 0) s_E rfl rfl rfl rfl (by decide) rfl rfl).trans ?_
  refine (r_getI (ci := 2) (sl := 7) rfl rfl rfl rfl (by decide)).trans ?_
  exact r_iret rfl rfl

theorem en_X9_feed {d : Nat} {E : pEv} {ro : Nat → Nat → Int32} {Q : Option Value → pH → Prop} (s_E : oE E) {w1 : Int64} {x3 : Int32} : wX (d + 1) 110 [.ref 10, .long w1, .int x3] (mkH E ro) Q = wX d 146 [.int x3, .int 1, .int 8] (mkH E ro) (fun v h' => wG d 110 (7, [.ref 10, .long w1, .retAddr 0, .int x3, .retAddr 0], pv v [], h') Q) := by
  refine (wX_in rfl (by decide)).trans ?_
  show wG d 110 (0, [.ref 10, .long w1, .retAddr 0, .int x3, .retAddr 0], [], mkH E ro) Q = _
  refine (r_iload_n rfl rfl rfl).trans ?_
  refine (r_iconst (v := 1) rfl rfl rfl).trans ?_
  refine (r_bipush (v := 8) rfl rfl rfl).trans ?_
  exact r_ins (m := 146) rfl rfl rfl rfl rfl rfl

theorem sg_X9_feed_7 {d : Nat} {E : pEv} {ro : Nat → Nat → Int32} {Q : Option Value → pH → Prop} (s_E : oE E) {w1 : Int64} {v2 : Value} {x3 : Int32} {v4 : Value} {xs0 : Int32} : wG d 110 (7, [.ref 10, .long w1, v2, .int x3, v4], [.int xs0], mkH E ro) Q = (if xs0 = 0 then wX d 136 [.ref 10, .int (-1000000001)] (mkH E ro) (fun v h' => wG d 110 (16, [.ref 10, .long w1, v2, .int x3, v4], pv v [], h') Q) else (if 50 < ((ro 34 1) + x3) then wX d 136 [.ref 10, .int (-1000000004)] (mkH E ro) (fun v h' => wG d 110 (40, [.ref 10, .long w1, v2, .int x3, v4], pv v [], h') Q) else wG d 110 (44, [.ref 10, .long w1, v2, .int x3, .int 0], [], mkH E ro) Q)) := by
  refine (r_if_ne rfl rfl rfl).trans ?_
  refine ite_congr rfl (fun h_0 => ?_) (fun h_0 => ?_)
  · refine (r_aload_n rfl rfl rfl).trans ?_
    refine (r_ldc (v := (-1000000001)) rfl rfl rfl).trans ?_
    exact r_inv (m := 136) (c := 9) rfl rfl rfl rfl rfl rfl rfl rfl
  · refine (r_aload_n rfl rfl rfl).trans ?_
    refine (r_getR (ci := 9) (sl := 0) s_E rfl rfl rfl rfl (by decide) rfl rfl).trans ?_
    refine (r_getR (ci := 2) (sl := 5) s_E rfl rfl rfl rfl (by decide) rfl rfl).trans ?_
    refine (r_getI (ci := 4) (sl := 1) rfl rfl rfl rfl (by decide)).trans ?_
    refine (r_iload_n rfl rfl rfl).trans ?_
    refine (r_iadd rfl rfl).trans ?_
    refine (r_bipush (v := 50) rfl rfl rfl).trans ?_
    refine (r_icmp_le rfl rfl rfl).trans ?_
    refine ite_congr rfl (fun h_1 => ?_) (fun h_1 => ?_)
    · refine (r_aload_n rfl rfl rfl).trans ?_
      refine (r_ldc (v := (-1000000004)) rfl rfl rfl).trans ?_
      exact r_inv (m := 136) (c := 9) rfl rfl rfl rfl rfl rfl rfl rfl
    · refine (r_iconst (v := 0) rfl rfl rfl).trans ?_
      refine (r_istore rfl rfl rfl rfl).trans ?_
      exact rfl

theorem sg_X9_feed_16 {d : Nat} {E : pEv} {ro : Nat → Nat → Int32} {Q : Option Value → pH → Prop} (s_E : oE E) {w1 : Int64} {v2 : Value} {x3 : Int32} {v4 : Value} {xs0 : Int32} : wG d 110 (16, [.ref 10, .long w1, v2, .int x3, v4], [.int xs0], mkH E ro) Q = Q (some (.int xs0)) (mkH E ro) := by
  exact r_iret rfl rfl

theorem sg_X9_feed_40 {d : Nat} {E : pEv} {ro : Nat → Nat → Int32} {Q : Option Value → pH → Prop} (s_E : oE E) {w1 : Int64} {v2 : Value} {x3 : Int32} {v4 : Value} {xs0 : Int32} : wG d 110 (40, [.ref 10, .long w1, v2, .int x3, v4], [.int xs0], mkH E ro) Q = Q (some (.int xs0)) (mkH E ro) := by
  exact r_iret rfl rfl

theorem sg_X9_feed_44 {d : Nat} {E : pEv} {ro : Nat → Nat → Int32} {Q : Option Value → pH → Prop} (s_E : oE E) {w1 : Int64} {v2 : Value} {x3 : Int32} {x4 : Int32} : wG d 110 (44, [.ref 10, .long w1, v2, .int x3, .int x4], [], mkH E ro) Q = (if x4 < x3 then wX d 59 [.ref 34, .int ((((w1.toUInt64 >>> ((8 * x4).toInt64.toUInt64 &&& Int64.toUInt64 63)).toInt64) &&& 255).toInt32)] (mkH E ro) (fun v h' => wG d 110 (72, [.ref 10, .long w1, v2, .int x3, .int x4], pv v [], h') Q) else Q (some (.int (ro 34 1))) (mkH E ro)) := by
  refine (r_iload rfl rfl rfl).trans ?_
  refine (r_iload_n rfl rfl rfl).trans ?_
  refine (r_icmp_ge rfl rfl rfl).trans ?_
  refine ite_congr rfl (fun h_0 => ?_) (fun h_0 => ?_)
  · refine (r_aload_n rfl rfl rfl).trans ?_
    refine (r_getR (ci := 9) (sl := 0) s_E rfl rfl rfl rfl (by decide) rfl rfl).trans ?_
    refine (r_getR (ci := 2) (sl := 5) s_E rfl rfl rfl rfl (by decide) rfl rfl).trans ?_
    refine (r_lload_n rfl rfl rfl).trans ?_
    refine (r_bipush (v := 8) rfl rfl rfl).trans ?_
    refine (r_iload rfl rfl rfl).trans ?_
    refine (r_imul rfl rfl).trans ?_
    refine (r_lushr rfl rfl).trans ?_
    refine (r_ldc2_w (w := 255) rfl rfl rfl).trans ?_
    refine (r_land rfl rfl).trans ?_
    refine (r_l2i rfl rfl).trans ?_
    exact r_inv (m := 59) (c := 4) rfl rfl rfl rfl rfl rfl rfl rfl
  · refine (r_aload_n rfl rfl rfl).trans ?_
    refine (r_getR (ci := 9) (sl := 0) s_E rfl rfl rfl rfl (by decide) rfl rfl).trans ?_
    refine (r_getR (ci := 2) (sl := 5) s_E rfl rfl rfl rfl (by decide) rfl rfl).trans ?_
    refine (r_getI (ci := 4) (sl := 1) rfl rfl rfl rfl (by decide)).trans ?_
    exact r_iret rfl rfl

theorem sg_X9_feed_72 {d : Nat} {E : pEv} {ro : Nat → Nat → Int32} {Q : Option Value → pH → Prop} (s_E : oE E) {w1 : Int64} {v2 : Value} {x3 : Int32} {x4 : Int32} : wG d 110 (72, [.ref 10, .long w1, v2, .int x3, .int x4], [], mkH E ro) Q = wG d 110 (44, [.ref 10, .long w1, v2, .int x3, .int (x4 + 1)], [], mkH E ro) Q := by
  refine (r_iinc (y := 1) rfl rfl rfl rfl rfl rfl).trans ?_
  refine (r_goto rfl rfl).trans ?_
  exact rfl

theorem en_X9_text {d : Nat} {E : pEv} {ro : Nat → Nat → Int32} {Q : Option Value → pH → Prop} (s_E : oE E) {x1 : Int32} : wX (d + 1) 111 [.ref 10, .int x1] (mkH E ro) Q = wX d 141 [.int x1] (mkH E ro) (fun v h' => wG d 111 (4, [.ref 10, .int x1, .retAddr 0], pv v [], h') Q) := by
  refine (wX_in rfl (by decide)).trans ?_
  show wG d 111 (0, [.ref 10, .int x1, .retAddr 0], [], mkH E ro) Q = _
  refine (r_iload_n rfl rfl rfl).trans ?_
  exact r_ins (m := 141) rfl rfl rfl rfl rfl rfl

theorem sg_X9_text_4 {d : Nat} {E : pEv} {ro : Nat → Nat → Int32} {Q : Option Value → pH → Prop} (s_E : oE E) {x1 : Int32} {v2 : Value} {xs0 : Int32} : wG d 111 (4, [.ref 10, .int x1, v2], [.int xs0], mkH E ro) Q = (if xs0 = 0 then wX d 136 [.ref 10, .int (-1000000001)] (mkH E ro) (fun v h' => wG d 111 (13, [.ref 10, .int x1, v2], pv v [], h') Q) else wX d 46 [.ref 81, .int x1] (mkH E ro) (fun v h' => wG d 111 (22, [.ref 10, .int x1, v2], pv v [], h') Q)) := by
  refine (r_if_ne rfl rfl rfl).trans ?_
  refine ite_congr rfl (fun h_0 => ?_) (fun h_0 => ?_)
  · refine (r_aload_n rfl rfl rfl).trans ?_
    refine (r_ldc (v := (-1000000001)) rfl rfl rfl).trans ?_
    exact r_inv (m := 136) (c := 9) rfl rfl rfl rfl rfl rfl rfl rfl
  · refine (r_aload_n rfl rfl rfl).trans ?_
    refine (r_getR (ci := 9) (sl := 4) s_E rfl rfl rfl rfl (by decide) rfl rfl).trans ?_
    refine (r_iload_n rfl rfl rfl).trans ?_
    exact r_inv (m := 46) (c := 3) rfl rfl rfl rfl rfl rfl rfl rfl

theorem sg_X9_text_13 {d : Nat} {E : pEv} {ro : Nat → Nat → Int32} {Q : Option Value → pH → Prop} (s_E : oE E) {x1 : Int32} {v2 : Value} {xs0 : Int32} : wG d 111 (13, [.ref 10, .int x1, v2], [.int xs0], mkH E ro) Q = Q (some (.int xs0)) (mkH E ro) := by
  exact r_iret rfl rfl

theorem sg_X9_text_22 {d : Nat} {E : pEv} {ro : Nat → Nat → Int32} {Q : Option Value → pH → Prop} (s_E : oE E) {x1 : Int32} {v2 : Value} {xs0 : Int32} : wG d 111 (22, [.ref 10, .int x1, v2], [.int xs0], mkH E ro) Q = wX d 66 [.ref 34] (mkH E ro) (fun v h' => wG d 111 (33, [.ref 10, .int x1, .int xs0], pv v [], h') Q) := by
  refine (r_istore_n rfl rfl rfl rfl).trans ?_
  refine (r_aload_n rfl rfl rfl).trans ?_
  refine (r_getR (ci := 9) (sl := 0) s_E rfl rfl rfl rfl (by decide) rfl rfl).trans ?_
  refine (r_getR (ci := 2) (sl := 5) s_E rfl rfl rfl rfl (by decide) rfl rfl).trans ?_
  exact r_inv (m := 66) (c := 4) rfl rfl rfl rfl rfl rfl rfl rfl

theorem sg_X9_text_33 {d : Nat} {E : pEv} {ro : Nat → Nat → Int32} {Q : Option Value → pH → Prop} (s_E : oE E) {x1 : Int32} {x2 : Int32} : wG d 111 (33, [.ref 10, .int x1, .int x2], [], mkH E ro) Q = (if x2 < 0 then wX d 21 [.ref 11, .int x1] (mkH E ro) (fun v h' => wG d 111 (50, [.ref 10, .int x1, .int x2], pv v [], h') Q) else Q (some (.int ((-10) - x2))) (mkH E ro)) := by
  refine (r_iload_n rfl rfl rfl).trans ?_
  refine (r_if_lt rfl rfl rfl).trans ?_
  refine ite_congr rfl (fun h_0 => ?_) (fun h_0 => ?_)
  · refine (r_aload_n rfl rfl rfl).trans ?_
    refine (r_getR (ci := 9) (sl := 0) s_E rfl rfl rfl rfl (by decide) rfl rfl).trans ?_
    refine (r_iload_n rfl rfl rfl).trans ?_
    exact r_inv (m := 21) (c := 2) rfl rfl rfl rfl rfl rfl rfl rfl
  · refine (r_bipush (v := (-10)) rfl rfl rfl).trans ?_
    refine (r_iload_n rfl rfl rfl).trans ?_
    refine (r_isub rfl rfl).trans ?_
    exact r_iret rfl rfl

theorem sg_X9_text_50 {d : Nat} {E : pEv} {ro : Nat → Nat → Int32} {Q : Option Value → pH → Prop} (s_E : oE E) {x1 : Int32} {x2 : Int32} {rs0 : Nat} (hs0 : oLaw rs0) : wG d 111 (50, [.ref 10, .int x1, .int x2], [.ref rs0], mkH E ro) Q = wX d 69 [.ref (rs0 + 3), .ref 82] (mkH E ro) (fun v h' => wG d 111 (63, [.ref 10, .int x1, .int x2], pv v [], h') Q) := by
  refine (r_getR (ci := 1) (sl := 2) s_E rfl rfl rfl hs0.2.1 hs0.1 hs0.2.2.2.1 (n81 hs0.2.1 (by decide))).trans ?_
  refine (r_aload_n rfl rfl rfl).trans ?_
  refine (r_getR (ci := 9) (sl := 4) s_E rfl rfl rfl rfl (by decide) rfl rfl).trans ?_
  refine (r_getR (ci := 3) (sl := 3) s_E rfl rfl rfl rfl (by decide) rfl rfl).trans ?_
  exact r_inv (m := 69) (c := 4) rfl rfl rfl rfl rfl rfl hs0.2.2.2.2.2.2.1 rfl

theorem sg_X9_text_63 {d : Nat} {E : pEv} {ro : Nat → Nat → Int32} {Q : Option Value → pH → Prop} (s_E : oE E) {x1 : Int32} {x2 : Int32} : wG d 111 (63, [.ref 10, .int x1, .int x2], [], mkH E ro) Q = Q (some (.int 1)) (mkH E ro) := by
  refine (r_iconst (v := 1) rfl rfl rfl).trans ?_
  exact r_iret rfl rfl

theorem en_X9_law {d : Nat} {E : pEv} {ro : Nat → Nat → Int32} {Q : Option Value → pH → Prop} (s_E : oE E) {x1 : Int32} {x2 : Int32} {x3 : Int32} {x4 : Int32} : wX (d + 1) 112 [.ref 10, .int x1, .int x2, .int x3, .int x4] (mkH E ro) Q = wX d 141 [.int x1] (mkH E ro) (fun v h' => wG d 112 (4, [.ref 10, .int x1, .int x2, .int x3, .int x4], pv v [], h') Q) := by
  refine (wX_in rfl (by decide)).trans ?_
  show wG d 112 (0, [.ref 10, .int x1, .int x2, .int x3, .int x4], [], mkH E ro) Q = _
  refine (r_iload_n rfl rfl rfl).trans ?_
  exact r_ins (m := 141) rfl rfl rfl rfl rfl rfl

theorem sg_X9_law_4 {d : Nat} {E : pEv} {ro : Nat → Nat → Int32} {Q : Option Value → pH → Prop} (s_E : oE E) {x1 : Int32} {x2 : Int32} {x3 : Int32} {x4 : Int32} {xs0 : Int32} : wG d 112 (4, [.ref 10, .int x1, .int x2, .int x3, .int x4], [.int xs0], mkH E ro) Q = (if xs0 = 0 then wX d 136 [.ref 10, .int (-1000000001)] (mkH E ro) (fun v h' => wG d 112 (13, [.ref 10, .int x1, .int x2, .int x3, .int x4], pv v [], h') Q) else wX d 21 [.ref 11, .int x1] (mkH E ro) (fun v h' => wG d 112 (22, [.ref 10, .int x1, .int x2, .int x3, .int x4], pv v [], h') Q)) := by
  refine (r_if_ne rfl rfl rfl).trans ?_
  refine ite_congr rfl (fun h_0 => ?_) (fun h_0 => ?_)
  · refine (r_aload_n rfl rfl rfl).trans ?_
    refine (r_ldc (v := (-1000000001)) rfl rfl rfl).trans ?_
    exact r_inv (m := 136) (c := 9) rfl rfl rfl rfl rfl rfl rfl rfl
  · refine (r_aload_n rfl rfl rfl).trans ?_
    refine (r_getR (ci := 9) (sl := 0) s_E rfl rfl rfl rfl (by decide) rfl rfl).trans ?_
    refine (r_iload_n rfl rfl rfl).trans ?_
    exact r_inv (m := 21) (c := 2) rfl rfl rfl rfl rfl rfl rfl rfl

theorem sg_X9_law_13 {d : Nat} {E : pEv} {ro : Nat → Nat → Int32} {Q : Option Value → pH → Prop} (s_E : oE E) {x1 : Int32} {x2 : Int32} {x3 : Int32} {x4 : Int32} {xs0 : Int32} : wG d 112 (13, [.ref 10, .int x1, .int x2, .int x3, .int x4], [.int xs0], mkH E ro) Q = Q (some (.int xs0)) (mkH E ro) := by
  exact r_iret rfl rfl

theorem sg_X9_law_22 {d : Nat} {E : pEv} {ro : Nat → Nat → Int32} {Q : Option Value → pH → Prop} (s_E : oE E) {x1 : Int32} {x2 : Int32} {x3 : Int32} {x4 : Int32} {rs0 : Nat} (hs0 : oLaw rs0) : wG d 112 (22, [.ref 10, .int x1, .int x2, .int x3, .int x4], [.ref rs0], mkH E ro) Q = wX d 16 [.ref rs0, .int x2, .int x3, .int x4] (mkH E ro) (fun v h' => wG d 112 (29, [.ref 10, .int x1, .int x2, .int x3, .int x4], pv v [], h') Q) := by
  refine (r_iload_n rfl rfl rfl).trans ?_
  refine (r_iload_n rfl rfl rfl).trans ?_
  refine (r_iload rfl rfl rfl).trans ?_
  exact r_inv (m := 16) (c := 1) rfl rfl rfl rfl rfl rfl hs0.2.1 rfl

theorem sg_X9_law_29 {d : Nat} {E : pEv} {ro : Nat → Nat → Int32} {Q : Option Value → pH → Prop} (s_E : oE E) {x1 : Int32} {x2 : Int32} {x3 : Int32} {x4 : Int32} {xs0 : Int32} : wG d 112 (29, [.ref 10, .int x1, .int x2, .int x3, .int x4], [.int xs0], mkH E ro) Q = Q (some (.int xs0)) (mkH E ro) := by
  exact r_iret rfl rfl

theorem en_X9_least {d : Nat} {E : pEv} {ro : Nat → Nat → Int32} {Q : Option Value → pH → Prop} (s_E : oE E) {x1 : Int32} : wX (d + 1) 113 [.ref 10, .int x1] (mkH E ro) Q = wX d 146 [.int x1, .int (-1), .int 6] (mkH E ro) (fun v h' => wG d 113 (7, [.ref 10, .int x1, .retAddr 0], pv v [], h') Q) := by
  refine (wX_in rfl (by decide)).trans ?_
  show wG d 113 (0, [.ref 10, .int x1, .retAddr 0], [], mkH E ro) Q = _
  refine (r_iload_n rfl rfl rfl).trans ?_
  refine (r_iconst (v := (-1)) rfl rfl rfl).trans ?_
  refine (r_bipush (v := 6) rfl rfl rfl).trans ?_
  exact r_ins (m := 146) rfl rfl rfl rfl rfl rfl

theorem sg_X9_least_7 {d : Nat} {E : pEv} {ro : Nat → Nat → Int32} {Q : Option Value → pH → Prop} (s_E : oE E) {x1 : Int32} {v2 : Value} {xs0 : Int32} : wG d 113 (7, [.ref 10, .int x1, v2], [.int xs0], mkH E ro) Q = (if xs0 = 0 then wX d 136 [.ref 10, .int (-1000000001)] (mkH E ro) (fun v h' => wG d 113 (16, [.ref 10, .int x1, v2], pv v [], h') Q) else (if x1 < (ro 11 7) then wX d 6 [.ref 65] (mkH E ro) (fun v h' => wG d 113 (42, [.ref 10, .int x1, v2], pv v [], h') Q) else wX d 136 [.ref 10, .int (-1000000002)] (mkH E ro) (fun v h' => wG d 113 (34, [.ref 10, .int x1, v2], pv v [], h') Q))) := by
  refine (r_if_ne rfl rfl rfl).trans ?_
  refine ite_congr rfl (fun h_0 => ?_) (fun h_0 => ?_)
  · refine (r_aload_n rfl rfl rfl).trans ?_
    refine (r_ldc (v := (-1000000001)) rfl rfl rfl).trans ?_
    exact r_inv (m := 136) (c := 9) rfl rfl rfl rfl rfl rfl rfl rfl
  · refine (r_iload_n rfl rfl rfl).trans ?_
    refine (r_aload_n rfl rfl rfl).trans ?_
    refine (r_getR (ci := 9) (sl := 0) s_E rfl rfl rfl rfl (by decide) rfl rfl).trans ?_
    refine (r_getI (ci := 2) (sl := 7) rfl rfl rfl rfl (by decide)).trans ?_
    refine (r_icmp_lt rfl rfl rfl).trans ?_
    refine ite_congr rfl (fun h_1 => ?_) (fun h_1 => ?_)
    · refine (r_aload_n rfl rfl rfl).trans ?_
      refine (r_getR (ci := 9) (sl := 2) s_E rfl rfl rfl rfl (by decide) rfl rfl).trans ?_
      exact r_inv (m := 6) (c := 0) rfl rfl rfl rfl rfl rfl rfl rfl
    · refine (r_aload_n rfl rfl rfl).trans ?_
      refine (r_ldc (v := (-1000000002)) rfl rfl rfl).trans ?_
      exact r_inv (m := 136) (c := 9) rfl rfl rfl rfl rfl rfl rfl rfl

theorem sg_X9_least_16 {d : Nat} {E : pEv} {ro : Nat → Nat → Int32} {Q : Option Value → pH → Prop} (s_E : oE E) {x1 : Int32} {v2 : Value} {xs0 : Int32} : wG d 113 (16, [.ref 10, .int x1, v2], [.int xs0], mkH E ro) Q = Q (some (.int xs0)) (mkH E ro) := by
  exact r_iret rfl rfl

theorem sg_X9_least_34 {d : Nat} {E : pEv} {ro : Nat → Nat → Int32} {Q : Option Value → pH → Prop} (s_E : oE E) {x1 : Int32} {v2 : Value} {xs0 : Int32} : wG d 113 (34, [.ref 10, .int x1, v2], [.int xs0], mkH E ro) Q = Q (some (.int xs0)) (mkH E ro) := by
  exact r_iret rfl rfl

theorem sg_X9_least_42 {d : Nat} {E : pEv} {ro : Nat → Nat → Int32} {Q : Option Value → pH → Prop} (s_E : oE E) {x1 : Int32} {v2 : Value} {xs0 : Int32} : wG d 113 (42, [.ref 10, .int x1, v2], [.int xs0], mkH E ro) Q = (if x1 < 0 then Q (some (.int xs0)) (mkH E ro) else wX d 57 [.ref 76, .int x1] (mkH E ro) (fun v h' => wG d 113 (62, [.ref 10, .int x1, .int xs0], pv v [], h') Q)) := by
  refine (r_istore_n rfl rfl rfl rfl).trans ?_
  refine (r_iload_n rfl rfl rfl).trans ?_
  refine (r_if_ge rfl rfl rfl).trans ?_
  refine ite_congr rfl (fun h_0 => ?_) (fun h_0 => ?_)
  · refine (r_iload_n rfl rfl rfl).trans ?_
    refine (r_goto rfl rfl).trans ?_
    exact r_iret rfl rfl
  · refine (r_aload_n rfl rfl rfl).trans ?_
    refine (r_getR (ci := 9) (sl := 2) s_E rfl rfl rfl rfl (by decide) rfl rfl).trans ?_
    refine (r_getR (ci := 0) (sl := 6) s_E rfl rfl rfl rfl (by decide) rfl rfl).trans ?_
    refine (r_iload_n rfl rfl rfl).trans ?_
    exact r_inv (m := 57) (c := 4) rfl rfl rfl rfl rfl rfl rfl rfl

theorem sg_X9_least_62 {d : Nat} {E : pEv} {ro : Nat → Nat → Int32} {Q : Option Value → pH → Prop} (s_E : oE E) {x1 : Int32} {x2 : Int32} {xs0 : Int32} : wG d 113 (62, [.ref 10, .int x1, .int x2], [.int xs0], mkH E ro) Q = Q (some (.int xs0)) (mkH E ro) := by
  exact r_iret rfl rfl

theorem en_X9_fewest {d : Nat} {E : pEv} {ro : Nat → Nat → Int32} {Q : Option Value → pH → Prop} (s_E : oE E) {x1 : Int32} : wX (d + 1) 114 [.ref 10, .int x1] (mkH E ro) Q = wX d 146 [.int x1, .int (-1), .int 6] (mkH E ro) (fun v h' => wG d 114 (7, [.ref 10, .int x1, .retAddr 0], pv v [], h') Q) := by
  refine (wX_in rfl (by decide)).trans ?_
  show wG d 114 (0, [.ref 10, .int x1, .retAddr 0], [], mkH E ro) Q = _
  refine (r_iload_n rfl rfl rfl).trans ?_
  refine (r_iconst (v := (-1)) rfl rfl rfl).trans ?_
  refine (r_bipush (v := 6) rfl rfl rfl).trans ?_
  exact r_ins (m := 146) rfl rfl rfl rfl rfl rfl

theorem sg_X9_fewest_7 {d : Nat} {E : pEv} {ro : Nat → Nat → Int32} {Q : Option Value → pH → Prop} (s_E : oE E) {x1 : Int32} {v2 : Value} {xs0 : Int32} : wG d 114 (7, [.ref 10, .int x1, v2], [.int xs0], mkH E ro) Q = (if xs0 = 0 then wX d 136 [.ref 10, .int (-1000000001)] (mkH E ro) (fun v h' => wG d 114 (16, [.ref 10, .int x1, v2], pv v [], h') Q) else (if x1 < (ro 11 7) then wX d 10 [.ref 65] (mkH E ro) (fun v h' => wG d 114 (42, [.ref 10, .int x1, v2], pv v [], h') Q) else wX d 136 [.ref 10, .int (-1000000002)] (mkH E ro) (fun v h' => wG d 114 (34, [.ref 10, .int x1, v2], pv v [], h') Q))) := by
  refine (r_if_ne rfl rfl rfl).trans ?_
  refine ite_congr rfl (fun h_0 => ?_) (fun h_0 => ?_)
  · refine (r_aload_n rfl rfl rfl).trans ?_
    refine (r_ldc (v := (-1000000001)) rfl rfl rfl).trans ?_
    exact r_inv (m := 136) (c := 9) rfl rfl rfl rfl rfl rfl rfl rfl
  · refine (r_iload_n rfl rfl rfl).trans ?_
    refine (r_aload_n rfl rfl rfl).trans ?_
    refine (r_getR (ci := 9) (sl := 0) s_E rfl rfl rfl rfl (by decide) rfl rfl).trans ?_
    refine (r_getI (ci := 2) (sl := 7) rfl rfl rfl rfl (by decide)).trans ?_
    refine (r_icmp_lt rfl rfl rfl).trans ?_
    refine ite_congr rfl (fun h_1 => ?_) (fun h_1 => ?_)
    · refine (r_aload_n rfl rfl rfl).trans ?_
      refine (r_getR (ci := 9) (sl := 2) s_E rfl rfl rfl rfl (by decide) rfl rfl).trans ?_
      exact r_inv (m := 10) (c := 0) rfl rfl rfl rfl rfl rfl rfl rfl
    · refine (r_aload_n rfl rfl rfl).trans ?_
      refine (r_ldc (v := (-1000000002)) rfl rfl rfl).trans ?_
      exact r_inv (m := 136) (c := 9) rfl rfl rfl rfl rfl rfl rfl rfl

theorem sg_X9_fewest_16 {d : Nat} {E : pEv} {ro : Nat → Nat → Int32} {Q : Option Value → pH → Prop} (s_E : oE E) {x1 : Int32} {v2 : Value} {xs0 : Int32} : wG d 114 (16, [.ref 10, .int x1, v2], [.int xs0], mkH E ro) Q = Q (some (.int xs0)) (mkH E ro) := by
  exact r_iret rfl rfl

theorem sg_X9_fewest_34 {d : Nat} {E : pEv} {ro : Nat → Nat → Int32} {Q : Option Value → pH → Prop} (s_E : oE E) {x1 : Int32} {v2 : Value} {xs0 : Int32} : wG d 114 (34, [.ref 10, .int x1, v2], [.int xs0], mkH E ro) Q = Q (some (.int xs0)) (mkH E ro) := by
  exact r_iret rfl rfl

theorem sg_X9_fewest_42 {d : Nat} {E : pEv} {ro : Nat → Nat → Int32} {Q : Option Value → pH → Prop} (s_E : oE E) {x1 : Int32} {v2 : Value} {xs0 : Int32} : wG d 114 (42, [.ref 10, .int x1, v2], [.int xs0], mkH E ro) Q = (if x1 < 0 then Q (some (.int xs0)) (mkH E ro) else wX d 57 [.ref 76, .int x1] (mkH E ro) (fun v h' => wG d 114 (62, [.ref 10, .int x1, .int xs0], pv v [], h') Q)) := by
  refine (r_istore_n rfl rfl rfl rfl).trans ?_
  refine (r_iload_n rfl rfl rfl).trans ?_
  refine (r_if_ge rfl rfl rfl).trans ?_
  refine ite_congr rfl (fun h_0 => ?_) (fun h_0 => ?_)
  · refine (r_iload_n rfl rfl rfl).trans ?_
    refine (r_goto rfl rfl).trans ?_
    exact r_iret rfl rfl
  · refine (r_aload_n rfl rfl rfl).trans ?_
    refine (r_getR (ci := 9) (sl := 2) s_E rfl rfl rfl rfl (by decide) rfl rfl).trans ?_
    refine (r_getR (ci := 0) (sl := 6) s_E rfl rfl rfl rfl (by decide) rfl rfl).trans ?_
    refine (r_iload_n rfl rfl rfl).trans ?_
    exact r_inv (m := 57) (c := 4) rfl rfl rfl rfl rfl rfl rfl rfl

theorem sg_X9_fewest_62 {d : Nat} {E : pEv} {ro : Nat → Nat → Int32} {Q : Option Value → pH → Prop} (s_E : oE E) {x1 : Int32} {x2 : Int32} {xs0 : Int32} : wG d 114 (62, [.ref 10, .int x1, .int x2], [.int xs0], mkH E ro) Q = Q (some (.int xs0)) (mkH E ro) := by
  exact r_iret rfl rfl

theorem en_X9_orders {d : Nat} {E : pEv} {ro : Nat → Nat → Int32} {Q : Option Value → pH → Prop} (s_E : oE E) {x1 : Int32} : wX (d + 1) 115 [.ref 10, .int x1] (mkH E ro) Q = wX d 146 [.int x1, .int 0, .int 9999] (mkH E ro) (fun v h' => wG d 115 (8, [.ref 10, .int x1], pv v [], h') Q) := by
  refine (wX_in rfl (by decide)).trans ?_
  show wG d 115 (0, [.ref 10, .int x1], [], mkH E ro) Q = _
  refine (r_iload_n rfl rfl rfl).trans ?_
  refine (r_iconst (v := 0) rfl rfl rfl).trans ?_
  refine (r_sipush (v := 9999) rfl rfl rfl).trans ?_
  exact r_ins (m := 146) rfl rfl rfl rfl rfl rfl

theorem sg_X9_orders_8 {d : Nat} {E : pEv} {ro : Nat → Nat → Int32} {Q : Option Value → pH → Prop} (s_E : oE E) {x1 : Int32} {xs0 : Int32} : wG d 115 (8, [.ref 10, .int x1], [.int xs0], mkH E ro) Q = (if xs0 = 0 then wX d 136 [.ref 10, .int (-1000000001)] (mkH E ro) (fun v h' => wG d 115 (17, [.ref 10, .int x1], pv v [], h') Q) else wX d 8 [.ref 65, .int x1] (mkH E ro) (fun v h' => wG d 115 (26, [.ref 10, .int x1], pv v [], h') Q)) := by
  refine (r_if_ne rfl rfl rfl).trans ?_
  refine ite_congr rfl (fun h_0 => ?_) (fun h_0 => ?_)
  · refine (r_aload_n rfl rfl rfl).trans ?_
    refine (r_ldc (v := (-1000000001)) rfl rfl rfl).trans ?_
    exact r_inv (m := 136) (c := 9) rfl rfl rfl rfl rfl rfl rfl rfl
  · refine (r_aload_n rfl rfl rfl).trans ?_
    refine (r_getR (ci := 9) (sl := 2) s_E rfl rfl rfl rfl (by decide) rfl rfl).trans ?_
    refine (r_iload_n rfl rfl rfl).trans ?_
    exact r_inv (m := 8) (c := 0) rfl rfl rfl rfl rfl rfl rfl rfl

theorem sg_X9_orders_17 {d : Nat} {E : pEv} {ro : Nat → Nat → Int32} {Q : Option Value → pH → Prop} (s_E : oE E) {x1 : Int32} {xs0 : Int32} : wG d 115 (17, [.ref 10, .int x1], [.int xs0], mkH E ro) Q = Q (some (.int xs0)) (mkH E ro) := by
  exact r_iret rfl rfl

theorem sg_X9_orders_26 {d : Nat} {E : pEv} {ro : Nat → Nat → Int32} {Q : Option Value → pH → Prop} (s_E : oE E) {x1 : Int32} {xs0 : Int32} : wG d 115 (26, [.ref 10, .int x1], [.int xs0], mkH E ro) Q = Q (some (.int xs0)) (mkH E ro) := by
  exact r_iret rfl rfl

theorem en_X9_mended {d : Nat} {E : pEv} {ro : Nat → Nat → Int32} {Q : Option Value → pH → Prop} (s_E : oE E) {x1 : Int32} {x2 : Int32} {x3 : Int32} : wX (d + 1) 116 [.ref 10, .int x1, .int x2, .int x3] (mkH E ro) Q = wX d 137 [.ref 10, .int x1] (mkH E ro) (fun v h' => wG d 116 (5, [.ref 10, .int x1, .int x2, .int x3, .retAddr 0], pv v [], h') Q) := by
  refine (wX_in rfl (by decide)).trans ?_
  show wG d 116 (0, [.ref 10, .int x1, .int x2, .int x3, .retAddr 0], [], mkH E ro) Q = _
  refine (r_aload_n rfl rfl rfl).trans ?_
  refine (r_iload_n rfl rfl rfl).trans ?_
  exact r_inv (m := 137) (c := 9) rfl rfl rfl rfl rfl rfl rfl rfl

theorem sg_X9_mended_5 {d : Nat} {E : pEv} {ro : Nat → Nat → Int32} {Q : Option Value → pH → Prop} (s_E : oE E) {x1 : Int32} {x2 : Int32} {x3 : Int32} {v4 : Value} {xs0 : Int32} : wG d 116 (5, [.ref 10, .int x1, .int x2, .int x3, v4], [.int xs0], mkH E ro) Q = (if xs0 = 0 then wX d 136 [.ref 10, .int (-1000000001)] (mkH E ro) (fun v h' => wG d 116 (32, [.ref 10, .int x1, .int x2, .int x3, v4], pv v [], h') Q) else wX d 146 [.int x2, .int 0, .int 1] (mkH E ro) (fun v h' => wG d 116 (14, [.ref 10, .int x1, .int x2, .int x3, v4], pv v [], h') Q)) := by
  refine (r_if_eq rfl rfl rfl).trans ?_
  refine ite_congr rfl (fun h_0 => ?_) (fun h_0 => ?_)
  · refine (r_aload_n rfl rfl rfl).trans ?_
    refine (r_ldc (v := (-1000000001)) rfl rfl rfl).trans ?_
    exact r_inv (m := 136) (c := 9) rfl rfl rfl rfl rfl rfl rfl rfl
  · refine (r_iload_n rfl rfl rfl).trans ?_
    refine (r_iconst (v := 0) rfl rfl rfl).trans ?_
    refine (r_iconst (v := 1) rfl rfl rfl).trans ?_
    exact r_ins (m := 146) rfl rfl rfl rfl rfl rfl

theorem sg_X9_mended_14 {d : Nat} {E : pEv} {ro : Nat → Nat → Int32} {Q : Option Value → pH → Prop} (s_E : oE E) {x1 : Int32} {x2 : Int32} {x3 : Int32} {v4 : Value} {xs0 : Int32} : wG d 116 (14, [.ref 10, .int x1, .int x2, .int x3, v4], [.int xs0], mkH E ro) Q = (if xs0 = 0 then wX d 136 [.ref 10, .int (-1000000001)] (mkH E ro) (fun v h' => wG d 116 (32, [.ref 10, .int x1, .int x2, .int x3, v4], pv v [], h') Q) else wX d 146 [.int x3, .int 0, .int 1] (mkH E ro) (fun v h' => wG d 116 (23, [.ref 10, .int x1, .int x2, .int x3, v4], pv v [], h') Q)) := by
  refine (r_if_eq rfl rfl rfl).trans ?_
  refine ite_congr rfl (fun h_0 => ?_) (fun h_0 => ?_)
  · refine (r_aload_n rfl rfl rfl).trans ?_
    refine (r_ldc (v := (-1000000001)) rfl rfl rfl).trans ?_
    exact r_inv (m := 136) (c := 9) rfl rfl rfl rfl rfl rfl rfl rfl
  · refine (r_iload_n rfl rfl rfl).trans ?_
    refine (r_iconst (v := 0) rfl rfl rfl).trans ?_
    refine (r_iconst (v := 1) rfl rfl rfl).trans ?_
    exact r_ins (m := 146) rfl rfl rfl rfl rfl rfl

theorem sg_X9_mended_23 {d : Nat} {E : pEv} {ro : Nat → Nat → Int32} {Q : Option Value → pH → Prop} (s_E : oE E) {x1 : Int32} {x2 : Int32} {x3 : Int32} {v4 : Value} {xs0 : Int32} : wG d 116 (23, [.ref 10, .int x1, .int x2, .int x3, v4], [.int xs0], mkH E ro) Q = (if xs0 = 0 then wX d 136 [.ref 10, .int (-1000000001)] (mkH E ro) (fun v h' => wG d 116 (32, [.ref 10, .int x1, .int x2, .int x3, v4], pv v [], h') Q) else wX d 92 [.ref 78, .int x1, .int x2] (mkH E ro) (fun v h' => wG d 116 (42, [.ref 10, .int x1, .int x2, .int x3, v4], pv v [], h') Q)) := by
  refine (r_if_ne rfl rfl rfl).trans ?_
  refine ite_congr rfl (fun h_0 => ?_) (fun h_0 => ?_)
  · refine (r_aload_n rfl rfl rfl).trans ?_
    refine (r_ldc (v := (-1000000001)) rfl rfl rfl).trans ?_
    exact r_inv (m := 136) (c := 9) rfl rfl rfl rfl rfl rfl rfl rfl
  · refine (r_aload_n rfl rfl rfl).trans ?_
    refine (r_getR (ci := 9) (sl := 3) s_E rfl rfl rfl rfl (by decide) rfl rfl).trans ?_
    refine (r_iload_n rfl rfl rfl).trans ?_
    refine (r_iload_n rfl rfl rfl).trans ?_
    exact r_inv (m := 92) (c := 8) rfl rfl rfl rfl rfl rfl rfl rfl

theorem sg_X9_mended_32 {d : Nat} {E : pEv} {ro : Nat → Nat → Int32} {Q : Option Value → pH → Prop} (s_E : oE E) {x1 : Int32} {x2 : Int32} {x3 : Int32} {v4 : Value} {xs0 : Int32} : wG d 116 (32, [.ref 10, .int x1, .int x2, .int x3, v4], [.int xs0], mkH E ro) Q = Q (some (.int xs0)) (mkH E ro) := by
  exact r_iret rfl rfl

theorem sg_X9_mended_42 {d : Nat} {E : pEv} {ro : Nat → Nat → Int32} {Q : Option Value → pH → Prop} (s_E : oE E) {x1 : Int32} {x2 : Int32} {x3 : Int32} {v4 : Value} {xs0 : Int32} : wG d 116 (42, [.ref 10, .int x1, .int x2, .int x3, v4], [.int xs0], mkH E ro) Q = (if xs0 < 0 then wX d 136 [.ref 10, .int (-1000000002)] (mkH E ro) (fun v h' => wG d 116 (55, [.ref 10, .int x1, .int x2, .int x3, .int xs0], pv v [], h') Q) else (if x3 = 0 then wX d 255 [.int xs0] (mkH E ro) (fun v h' => wG d 116 (65, [.ref 10, .int x1, .int x2, .int x3, .int xs0], pv v [], h') Q) else Q (some (.int xs0)) (mkH E ro))) := by
  refine (r_istore rfl rfl rfl rfl).trans ?_
  refine (r_iload rfl rfl rfl).trans ?_
  refine (r_if_ge rfl rfl rfl).trans ?_
  refine ite_congr rfl (fun h_0 => ?_) (fun h_0 => ?_)
  · refine (r_aload_n rfl rfl rfl).trans ?_
    refine (r_ldc (v := (-1000000002)) rfl rfl rfl).trans ?_
    exact r_inv (m := 136) (c := 9) rfl rfl rfl rfl rfl rfl rfl rfl
  · refine (r_iload_n rfl rfl rfl).trans ?_
    refine (r_if_ne rfl rfl rfl).trans ?_
    refine ite_congr rfl (fun h_1 => ?_) (fun h_1 => ?_)
    · refine (r_iload rfl rfl rfl).trans ?_
      exact r_ins (m := 255) rfl rfl rfl rfl rfl rfl
    · refine (r_iload rfl rfl rfl).trans ?_
      exact r_iret rfl rfl

theorem sg_X9_mended_55 {d : Nat} {E : pEv} {ro : Nat → Nat → Int32} {Q : Option Value → pH → Prop} (s_E : oE E) {x1 : Int32} {x2 : Int32} {x3 : Int32} {x4 : Int32} {xs0 : Int32} : wG d 116 (55, [.ref 10, .int x1, .int x2, .int x3, .int x4], [.int xs0], mkH E ro) Q = Q (some (.int xs0)) (mkH E ro) := by
  exact r_iret rfl rfl

theorem sg_X9_mended_65 {d : Nat} {E : pEv} {ro : Nat → Nat → Int32} {Q : Option Value → pH → Prop} (s_E : oE E) {x1 : Int32} {x2 : Int32} {x3 : Int32} {x4 : Int32} {xs0 : Int32} : wG d 116 (65, [.ref 10, .int x1, .int x2, .int x3, .int x4], [.int xs0], mkH E ro) Q = Q (some (.int xs0)) (mkH E ro) := by
  refine (r_goto rfl rfl).trans ?_
  exact r_iret rfl rfl

theorem en_X9_thought {d : Nat} {E : pEv} {ro : Nat → Nat → Int32} {Q : Option Value → pH → Prop} (s_E : oE E) {x1 : Int32} : wX (d + 1) 117 [.ref 10, .int x1] (mkH E ro) Q = wX d 146 [.int x1, .int 0, .int (ro 11 7)] (mkH E ro) (fun v h' => wG d 117 (12, [.ref 10, .int x1], pv v [], h') Q) := by
  refine (wX_in rfl (by decide)).trans ?_
  show wG d 117 (0, [.ref 10, .int x1], [], mkH E ro) Q = _
  refine (r_iload_n rfl rfl rfl).trans ?_
  refine (r_iconst (v := 0) rfl rfl rfl).trans ?_
  refine (r_aload_n rfl rfl rfl).trans ?_
  refine (r_getR (ci := 9) (sl := 0) s_E rfl rfl rfl rfl (by decide) rfl rfl).trans ?_
  refine (r_getI (ci := 2) (sl := 7) rfl rfl rfl rfl (by decide)).trans ?_
  exact r_ins (m := 146) rfl rfl rfl rfl rfl rfl

theorem sg_X9_thought_12 {d : Nat} {E : pEv} {ro : Nat → Nat → Int32} {Q : Option Value → pH → Prop} (s_E : oE E) {x1 : Int32} {xs0 : Int32} : wG d 117 (12, [.ref 10, .int x1], [.int xs0], mkH E ro) Q = (if xs0 = 0 then wX d 136 [.ref 10, .int (-1000000001)] (mkH E ro) (fun v h' => wG d 117 (21, [.ref 10, .int x1], pv v [], h') Q) else wX d 93 [.ref 78] (mkH E ro) (fun v h' => wG d 117 (29, [.ref 10, .int x1], pv v [], h') Q)) := by
  refine (r_if_ne rfl rfl rfl).trans ?_
  refine ite_congr rfl (fun h_0 => ?_) (fun h_0 => ?_)
  · refine (r_aload_n rfl rfl rfl).trans ?_
    refine (r_ldc (v := (-1000000001)) rfl rfl rfl).trans ?_
    exact r_inv (m := 136) (c := 9) rfl rfl rfl rfl rfl rfl rfl rfl
  · refine (r_aload_n rfl rfl rfl).trans ?_
    refine (r_getR (ci := 9) (sl := 3) s_E rfl rfl rfl rfl (by decide) rfl rfl).trans ?_
    exact r_inv (m := 93) (c := 8) rfl rfl rfl rfl rfl rfl rfl rfl

theorem sg_X9_thought_21 {d : Nat} {E : pEv} {ro : Nat → Nat → Int32} {Q : Option Value → pH → Prop} (s_E : oE E) {x1 : Int32} {xs0 : Int32} : wG d 117 (21, [.ref 10, .int x1], [.int xs0], mkH E ro) Q = Q (some (.int xs0)) (mkH E ro) := by
  exact r_iret rfl rfl

theorem sg_X9_thought_29 {d : Nat} {E : pEv} {ro : Nat → Nat → Int32} {Q : Option Value → pH → Prop} (s_E : oE E) {x1 : Int32} : wG d 117 (29, [.ref 10, .int x1], [], mkH E ro) Q = wX d 94 [.ref 78, .int x1] (mkH E ro) (fun v h' => wG d 117 (37, [.ref 10, .int x1], pv v [], h') Q) := by
  refine (r_aload_n rfl rfl rfl).trans ?_
  refine (r_getR (ci := 9) (sl := 3) s_E rfl rfl rfl rfl (by decide) rfl rfl).trans ?_
  refine (r_iload_n rfl rfl rfl).trans ?_
  exact r_inv (m := 94) (c := 8) rfl rfl rfl rfl rfl rfl rfl rfl

theorem sg_X9_thought_37 {d : Nat} {E : pEv} {ro : Nat → Nat → Int32} {Q : Option Value → pH → Prop} (s_E : oE E) {x1 : Int32} {xs0 : Int32} : wG d 117 (37, [.ref 10, .int x1], [.int xs0], mkH E ro) Q = Q (some (.int xs0)) (mkH E ro) := by
  exact r_iret rfl rfl

theorem en_X9_sure {d : Nat} {E : pEv} {ro : Nat → Nat → Int32} {Q : Option Value → pH → Prop} (s_E : oE E) : wX (d + 1) 118 [.ref 10] (mkH E ro) Q = wX d 93 [.ref 78] (mkH E ro) (fun v h' => wG d 118 (7, [.ref 10, .retAddr 0], pv v [], h') Q) := by
  refine (wX_in rfl (by decide)).trans ?_
  show wG d 118 (0, [.ref 10, .retAddr 0], [], mkH E ro) Q = _
  refine (r_aload_n rfl rfl rfl).trans ?_
  refine (r_getR (ci := 9) (sl := 3) s_E rfl rfl rfl rfl (by decide) rfl rfl).trans ?_
  exact r_inv (m := 93) (c := 8) rfl rfl rfl rfl rfl rfl rfl rfl

theorem sg_X9_sure_7 {d : Nat} {E : pEv} {ro : Nat → Nat → Int32} {Q : Option Value → pH → Prop} (s_E : oE E) {v1 : Value} : wG d 118 (7, [.ref 10, v1], [], mkH E ro) Q = wG d 118 (9, [.ref 10, .int 0], [], mkH E ro) Q := by
  refine (r_iconst (v := 0) rfl rfl rfl).trans ?_
  refine (r_istore_n rfl rfl rfl rfl).trans ?_
  exact rfl

theorem sg_X9_sure_9 {d : Nat} {E : pEv} {ro : Nat → Nat → Int32} {Q : Option Value → pH → Prop} (s_E : oE E) {x1 : Int32} : wG d 118 (9, [.ref 10, .int x1], [], mkH E ro) Q = (if (ro 11 7) < x1 then wX d 136 [.ref 10, .int (-1000000002)] (mkH E ro) (fun v h' => wG d 118 (46, [.ref 10, .int x1], pv v [], h') Q) else wX d 94 [.ref 78, .int x1] (mkH E ro) (fun v h' => wG d 118 (28, [.ref 10, .int x1], pv v [], h') Q)) := by
  refine (r_iload_n rfl rfl rfl).trans ?_
  refine (r_aload_n rfl rfl rfl).trans ?_
  refine (r_getR (ci := 9) (sl := 0) s_E rfl rfl rfl rfl (by decide) rfl rfl).trans ?_
  refine (r_getI (ci := 2) (sl := 7) rfl rfl rfl rfl (by decide)).trans ?_
  refine (r_icmp_gt rfl rfl rfl).trans ?_
  refine ite_congr rfl (fun h_0 => ?_) (fun h_0 => ?_)
  · refine (r_aload_n rfl rfl rfl).trans ?_
    refine (r_ldc (v := (-1000000002)) rfl rfl rfl).trans ?_
    exact r_inv (m := 136) (c := 9) rfl rfl rfl rfl rfl rfl rfl rfl
  · refine (r_aload_n rfl rfl rfl).trans ?_
    refine (r_getR (ci := 9) (sl := 3) s_E rfl rfl rfl rfl (by decide) rfl rfl).trans ?_
    refine (r_iload_n rfl rfl rfl).trans ?_
    exact r_inv (m := 94) (c := 8) rfl rfl rfl rfl rfl rfl rfl rfl

theorem sg_X9_sure_28 {d : Nat} {E : pEv} {ro : Nat → Nat → Int32} {Q : Option Value → pH → Prop} (s_E : oE E) {x1 : Int32} {xs0 : Int32} : wG d 118 (28, [.ref 10, .int x1], [.int xs0], mkH E ro) Q = (if xs0 = 1 then Q (some (.int x1)) (mkH E ro) else wG d 118 (9, [.ref 10, .int (x1 + 1)], [], mkH E ro) Q) := by
  refine (r_iconst (v := 1) rfl rfl rfl).trans ?_
  refine (r_icmp_ne rfl rfl rfl).trans ?_
  refine ite_congr rfl (fun h_0 => ?_) (fun h_0 => ?_)
  · refine (r_iload_n rfl rfl rfl).trans ?_
    exact r_iret rfl rfl
  · refine (r_iinc (y := 1) rfl rfl rfl rfl rfl rfl).trans ?_
    refine (r_goto rfl rfl).trans ?_
    exact rfl

theorem sg_X9_sure_46 {d : Nat} {E : pEv} {ro : Nat → Nat → Int32} {Q : Option Value → pH → Prop} (s_E : oE E) {x1 : Int32} {xs0 : Int32} : wG d 118 (46, [.ref 10, .int x1], [.int xs0], mkH E ro) Q = Q (some (.int xs0)) (mkH E ro) := by
  exact r_iret rfl rfl

theorem en_X9_explained {d : Nat} {E : pEv} {ro : Nat → Nat → Int32} {Q : Option Value → pH → Prop} (s_E : oE E) {x1 : Int32} {x2 : Int32} : wX (d + 1) 119 [.ref 10, .int x1, .int x2] (mkH E ro) Q = wX d 137 [.ref 10, .int x1] (mkH E ro) (fun v h' => wG d 119 (5, [.ref 10, .int x1, .int x2, .retAddr 0, .retAddr 0], pv v [], h') Q) := by
  refine (wX_in rfl (by decide)).trans ?_
  show wG d 119 (0, [.ref 10, .int x1, .int x2, .retAddr 0, .retAddr 0], [], mkH E ro) Q = _
  refine (r_aload_n rfl rfl rfl).trans ?_
  refine (r_iload_n rfl rfl rfl).trans ?_
  exact r_inv (m := 137) (c := 9) rfl rfl rfl rfl rfl rfl rfl rfl

theorem sg_X9_explained_5 {d : Nat} {E : pEv} {ro : Nat → Nat → Int32} {Q : Option Value → pH → Prop} (s_E : oE E) {x1 : Int32} {x2 : Int32} {v3 : Value} {v4 : Value} {xs0 : Int32} : wG d 119 (5, [.ref 10, .int x1, .int x2, v3, v4], [.int xs0], mkH E ro) Q = (if xs0 = 0 then wX d 136 [.ref 10, .int (-1000000001)] (mkH E ro) (fun v h' => wG d 119 (22, [.ref 10, .int x1, .int x2, v3, v4], pv v [], h') Q) else wX d 139 [.ref 10, .int x2] (mkH E ro) (fun v h' => wG d 119 (13, [.ref 10, .int x1, .int x2, v3, v4], pv v [], h') Q)) := by
  refine (r_if_eq rfl rfl rfl).trans ?_
  refine ite_congr rfl (fun h_0 => ?_) (fun h_0 => ?_)
  · refine (r_aload_n rfl rfl rfl).trans ?_
    refine (r_ldc (v := (-1000000001)) rfl rfl rfl).trans ?_
    exact r_inv (m := 136) (c := 9) rfl rfl rfl rfl rfl rfl rfl rfl
  · refine (r_aload_n rfl rfl rfl).trans ?_
    refine (r_iload_n rfl rfl rfl).trans ?_
    exact r_inv (m := 139) (c := 9) rfl rfl rfl rfl rfl rfl rfl rfl

theorem sg_X9_explained_13 {d : Nat} {E : pEv} {ro : Nat → Nat → Int32} {Q : Option Value → pH → Prop} (s_E : oE E) {x1 : Int32} {x2 : Int32} {v3 : Value} {v4 : Value} {xs0 : Int32} : wG d 119 (13, [.ref 10, .int x1, .int x2, v3, v4], [.int xs0], mkH E ro) Q = (if xs0 = 0 then wX d 136 [.ref 10, .int (-1000000001)] (mkH E ro) (fun v h' => wG d 119 (22, [.ref 10, .int x1, .int x2, v3, v4], pv v [], h') Q) else wX d 24 [.ref 11] (mkH E ro) (fun v h' => wG d 119 (30, [.ref 10, .int x1, .int x2, v3, v4], pv v [], h') Q)) := by
  refine (r_if_ne rfl rfl rfl).trans ?_
  refine ite_congr rfl (fun h_0 => ?_) (fun h_0 => ?_)
  · refine (r_aload_n rfl rfl rfl).trans ?_
    refine (r_ldc (v := (-1000000001)) rfl rfl rfl).trans ?_
    exact r_inv (m := 136) (c := 9) rfl rfl rfl rfl rfl rfl rfl rfl
  · refine (r_aload_n rfl rfl rfl).trans ?_
    refine (r_getR (ci := 9) (sl := 0) s_E rfl rfl rfl rfl (by decide) rfl rfl).trans ?_
    exact r_inv (m := 24) (c := 2) rfl rfl rfl rfl rfl rfl rfl rfl

theorem sg_X9_explained_22 {d : Nat} {E : pEv} {ro : Nat → Nat → Int32} {Q : Option Value → pH → Prop} (s_E : oE E) {x1 : Int32} {x2 : Int32} {v3 : Value} {v4 : Value} {xs0 : Int32} : wG d 119 (22, [.ref 10, .int x1, .int x2, v3, v4], [.int xs0], mkH E ro) Q = Q (some (.int xs0)) (mkH E ro) := by
  exact r_iret rfl rfl

theorem sg_X9_explained_30 {d : Nat} {E : pEv} {ro : Nat → Nat → Int32} {Q : Option Value → pH → Prop} (s_E : oE E) {x1 : Int32} {x2 : Int32} {v3 : Value} {v4 : Value} {xs0 : Int32} : wG d 119 (30, [.ref 10, .int x1, .int x2, v3, v4], [.int xs0], mkH E ro) Q = wG d 119 (34, [.ref 10, .int x1, .int x2, .int xs0, .int 0], [], mkH E ro) Q := by
  refine (r_istore_n rfl rfl rfl rfl).trans ?_
  refine (r_iconst (v := 0) rfl rfl rfl).trans ?_
  refine (r_istore rfl rfl rfl rfl).trans ?_
  exact rfl

theorem sg_X9_explained_34 {d : Nat} {E : pEv} {ro : Nat → Nat → Int32} {Q : Option Value → pH → Prop} (s_E : oE E) {x1 : Int32} {x2 : Int32} {x3 : Int32} {x4 : Int32} : wG d 119 (34, [.ref 10, .int x1, .int x2, .int x3, .int x4], [], mkH E ro) Q = (if x4 < 7 then wX d 27 [.ref 11, .int x3, .int x1, .int x4] (mkH E ro) (fun v h' => wG d 119 (52, [.ref 10, .int x1, .int x2, .int x3, .int x4], pv v [], h') Q) else wX d 136 [.ref 10, .int (-1000000002)] (mkH E ro) (fun v h' => wG d 119 (71, [.ref 10, .int x1, .int x2, .int x3, .int x4], pv v [], h') Q)) := by
  refine (r_iload rfl rfl rfl).trans ?_
  refine (r_bipush (v := 7) rfl rfl rfl).trans ?_
  refine (r_icmp_ge rfl rfl rfl).trans ?_
  refine ite_congr rfl (fun h_0 => ?_) (fun h_0 => ?_)
  · refine (r_aload_n rfl rfl rfl).trans ?_
    refine (r_getR (ci := 9) (sl := 0) s_E rfl rfl rfl rfl (by decide) rfl rfl).trans ?_
    refine (r_iload_n rfl rfl rfl).trans ?_
    refine (r_iload_n rfl rfl rfl).trans ?_
    refine (r_iload rfl rfl rfl).trans ?_
    exact r_inv (m := 27) (c := 2) rfl rfl rfl rfl rfl rfl rfl rfl
  · refine (r_aload_n rfl rfl rfl).trans ?_
    refine (r_ldc (v := (-1000000002)) rfl rfl rfl).trans ?_
    exact r_inv (m := 136) (c := 9) rfl rfl rfl rfl rfl rfl rfl rfl

theorem sg_X9_explained_52 {d : Nat} {E : pEv} {ro : Nat → Nat → Int32} {Q : Option Value → pH → Prop} (s_E : oE E) {x1 : Int32} {x2 : Int32} {x3 : Int32} {x4 : Int32} {xs0 : Int32} : wG d 119 (52, [.ref 10, .int x1, .int x2, .int x3, .int x4], [.int xs0], mkH E ro) Q = (if xs0 = x2 then Q (some (.int x4)) (mkH E ro) else wG d 119 (34, [.ref 10, .int x1, .int x2, .int x3, .int (x4 + 1)], [], mkH E ro) Q) := by
  refine (r_iload_n rfl rfl rfl).trans ?_
  refine (r_icmp_ne rfl rfl rfl).trans ?_
  refine ite_congr rfl (fun h_0 => ?_) (fun h_0 => ?_)
  · refine (r_iload rfl rfl rfl).trans ?_
    exact r_iret rfl rfl
  · refine (r_iinc (y := 1) rfl rfl rfl rfl rfl rfl).trans ?_
    refine (r_goto rfl rfl).trans ?_
    exact rfl

theorem sg_X9_explained_71 {d : Nat} {E : pEv} {ro : Nat → Nat → Int32} {Q : Option Value → pH → Prop} (s_E : oE E) {x1 : Int32} {x2 : Int32} {x3 : Int32} {x4 : Int32} {xs0 : Int32} : wG d 119 (71, [.ref 10, .int x1, .int x2, .int x3, .int x4], [.int xs0], mkH E ro) Q = Q (some (.int xs0)) (mkH E ro) := by
  exact r_iret rfl rfl

theorem en_X9_evenings {d : Nat} {E : pEv} {ro : Nat → Nat → Int32} {Q : Option Value → pH → Prop} (s_E : oE E) {x1 : Int32} : wX (d + 1) 120 [.ref 10, .int x1] (mkH E ro) Q = wX d 145 [.ref 10, .int x1] (mkH E ro) (fun v h' => wG d 120 (5, [.ref 10, .int x1, .retAddr 0, .retAddr 0, .retAddr 0], pv v [], h') Q) := by
  refine (wX_in rfl (by decide)).trans ?_
  show wG d 120 (0, [.ref 10, .int x1, .retAddr 0, .retAddr 0, .retAddr 0], [], mkH E ro) Q = _
  refine (r_aload_n rfl rfl rfl).trans ?_
  refine (r_iload_n rfl rfl rfl).trans ?_
  exact r_inv (m := 145) (c := 9) rfl rfl rfl rfl rfl rfl rfl rfl

theorem sg_X9_evenings_5 {d : Nat} {E : pEv} {ro : Nat → Nat → Int32} {Q : Option Value → pH → Prop} (s_E : oE E) {x1 : Int32} {v2 : Value} {v3 : Value} {v4 : Value} {xs0 : Int32} : wG d 120 (5, [.ref 10, .int x1, v2, v3, v4], [.int xs0], mkH E ro) Q = (if xs0 = 0 then wX d 41 [.ref 11] (mkH E ro) (fun v h' => wG d 120 (23, [.ref 10, .int x1, .int xs0, v3, v4], pv v [], h') Q) else wX d 136 [.ref 10, .int xs0] (mkH E ro) (fun v h' => wG d 120 (15, [.ref 10, .int x1, .int xs0, v3, v4], pv v [], h') Q)) := by
  refine (r_istore_n rfl rfl rfl rfl).trans ?_
  refine (r_iload_n rfl rfl rfl).trans ?_
  refine (r_if_eq rfl rfl rfl).trans ?_
  refine ite_congr rfl (fun h_0 => ?_) (fun h_0 => ?_)
  · refine (r_aload_n rfl rfl rfl).trans ?_
    refine (r_getR (ci := 9) (sl := 0) s_E rfl rfl rfl rfl (by decide) rfl rfl).trans ?_
    exact r_inv (m := 41) (c := 2) rfl rfl rfl rfl rfl rfl rfl rfl
  · refine (r_aload_n rfl rfl rfl).trans ?_
    refine (r_iload_n rfl rfl rfl).trans ?_
    exact r_inv (m := 136) (c := 9) rfl rfl rfl rfl rfl rfl rfl rfl

theorem sg_X9_evenings_15 {d : Nat} {E : pEv} {ro : Nat → Nat → Int32} {Q : Option Value → pH → Prop} (s_E : oE E) {x1 : Int32} {x2 : Int32} {v3 : Value} {v4 : Value} {xs0 : Int32} : wG d 120 (15, [.ref 10, .int x1, .int x2, v3, v4], [.int xs0], mkH E ro) Q = Q (some (.int xs0)) (mkH E ro) := by
  exact r_iret rfl rfl

theorem sg_X9_evenings_23 {d : Nat} {E : pEv} {ro : Nat → Nat → Int32} {Q : Option Value → pH → Prop} (s_E : oE E) {x1 : Int32} {x2 : Int32} {v3 : Value} {v4 : Value} {xs0 : Int32} : wG d 120 (23, [.ref 10, .int x1, .int x2, v3, v4], [.int xs0], mkH E ro) Q = wG d 120 (27, [.ref 10, .int x1, .int x2, .int xs0, .int 0], [], mkH E ro) Q := by
  refine (r_istore_n rfl rfl rfl rfl).trans ?_
  refine (r_iconst (v := 0) rfl rfl rfl).trans ?_
  refine (r_istore rfl rfl rfl rfl).trans ?_
  exact rfl

theorem sg_X9_evenings_27 {d : Nat} {E : pEv} {ro : Nat → Nat → Int32} {Q : Option Value → pH → Prop} (s_E : oE E) {x1 : Int32} {x2 : Int32} {x3 : Int32} {x4 : Int32} : wG d 120 (27, [.ref 10, .int x1, .int x2, .int x3, .int x4], [], mkH E ro) Q = (if x4 < x1 then wX d 42 [.ref 11, .int x3] (mkH E ro) (fun v h' => wG d 120 (41, [.ref 10, .int x1, .int x2, .int x3, .int x4], pv v [], h') Q) else Q (some (.int (ro 11 9))) (mkH E ro)) := by
  refine (r_iload rfl rfl rfl).trans ?_
  refine (r_iload_n rfl rfl rfl).trans ?_
  refine (r_icmp_ge rfl rfl rfl).trans ?_
  refine ite_congr rfl (fun h_0 => ?_) (fun h_0 => ?_)
  · refine (r_aload_n rfl rfl rfl).trans ?_
    refine (r_getR (ci := 9) (sl := 0) s_E rfl rfl rfl rfl (by decide) rfl rfl).trans ?_
    refine (r_iload_n rfl rfl rfl).trans ?_
    exact r_inv (m := 42) (c := 2) rfl rfl rfl rfl rfl rfl rfl rfl
  · refine (r_aload_n rfl rfl rfl).trans ?_
    refine (r_getR (ci := 9) (sl := 0) s_E rfl rfl rfl rfl (by decide) rfl rfl).trans ?_
    refine (r_getI (ci := 2) (sl := 9) rfl rfl rfl rfl (by decide)).trans ?_
    exact r_iret rfl rfl

theorem sg_X9_evenings_41 {d : Nat} {E : pEv} {ro : Nat → Nat → Int32} {Q : Option Value → pH → Prop} (s_E : oE E) {x1 : Int32} {x2 : Int32} {x3 : Int32} {x4 : Int32} : wG d 120 (41, [.ref 10, .int x1, .int x2, .int x3, .int x4], [], mkH E ro) Q = wG d 120 (27, [.ref 10, .int x1, .int x2, .int x3, .int (x4 + 1)], [], mkH E ro) Q := by
  refine (r_iinc (y := 1) rfl rfl rfl rfl rfl rfl).trans ?_
  refine (r_goto rfl rfl).trans ?_
  exact rfl

theorem en_X9_loose {d : Nat} {E : pEv} {ro : Nat → Nat → Int32} {Q : Option Value → pH → Prop} (s_E : oE E) {x1 : Int32} : wX (d + 1) 121 [.ref 10, .int x1] (mkH E ro) Q = wX d 145 [.ref 10, .int x1] (mkH E ro) (fun v h' => wG d 121 (5, [.ref 10, .int x1, .retAddr 0, .retAddr 0], pv v [], h') Q) := by
  refine (wX_in rfl (by decide)).trans ?_
  show wG d 121 (0, [.ref 10, .int x1, .retAddr 0, .retAddr 0], [], mkH E ro) Q = _
  refine (r_aload_n rfl rfl rfl).trans ?_
  refine (r_iload_n rfl rfl rfl).trans ?_
  exact r_inv (m := 145) (c := 9) rfl rfl rfl rfl rfl rfl rfl rfl

theorem sg_X9_loose_5 {d : Nat} {E : pEv} {ro : Nat → Nat → Int32} {Q : Option Value → pH → Prop} (s_E : oE E) {x1 : Int32} {v2 : Value} {v3 : Value} {xs0 : Int32} : wG d 121 (5, [.ref 10, .int x1, v2, v3], [.int xs0], mkH E ro) Q = (if xs0 = 0 then wG d 121 (18, [.ref 10, .int x1, .int xs0, .int 0], [], mkH E ro) Q else wX d 136 [.ref 10, .int xs0] (mkH E ro) (fun v h' => wG d 121 (15, [.ref 10, .int x1, .int xs0, v3], pv v [], h') Q)) := by
  refine (r_istore_n rfl rfl rfl rfl).trans ?_
  refine (r_iload_n rfl rfl rfl).trans ?_
  refine (r_if_eq rfl rfl rfl).trans ?_
  refine ite_congr rfl (fun h_0 => ?_) (fun h_0 => ?_)
  · refine (r_iconst (v := 0) rfl rfl rfl).trans ?_
    refine (r_istore_n rfl rfl rfl rfl).trans ?_
    exact rfl
  · refine (r_aload_n rfl rfl rfl).trans ?_
    refine (r_iload_n rfl rfl rfl).trans ?_
    exact r_inv (m := 136) (c := 9) rfl rfl rfl rfl rfl rfl rfl rfl

theorem sg_X9_loose_15 {d : Nat} {E : pEv} {ro : Nat → Nat → Int32} {Q : Option Value → pH → Prop} (s_E : oE E) {x1 : Int32} {x2 : Int32} {v3 : Value} {xs0 : Int32} : wG d 121 (15, [.ref 10, .int x1, .int x2, v3], [.int xs0], mkH E ro) Q = Q (some (.int xs0)) (mkH E ro) := by
  exact r_iret rfl rfl

theorem sg_X9_loose_18 {d : Nat} {E : pEv} {ro : Nat → Nat → Int32} {Q : Option Value → pH → Prop} (s_E : oE E) {x1 : Int32} {x2 : Int32} {x3 : Int32} : wG d 121 (18, [.ref 10, .int x1, .int x2, .int x3], [], mkH E ro) Q = (if x3 < x1 then wX d 43 [.ref 11] (mkH E ro) (fun v h' => wG d 121 (30, [.ref 10, .int x1, .int x2, .int x3], pv v [], h') Q) else Q (some (.int (ro 11 9))) (mkH E ro)) := by
  refine (r_iload_n rfl rfl rfl).trans ?_
  refine (r_iload_n rfl rfl rfl).trans ?_
  refine (r_icmp_ge rfl rfl rfl).trans ?_
  refine ite_congr rfl (fun h_0 => ?_) (fun h_0 => ?_)
  · refine (r_aload_n rfl rfl rfl).trans ?_
    refine (r_getR (ci := 9) (sl := 0) s_E rfl rfl rfl rfl (by decide) rfl rfl).trans ?_
    exact r_inv (m := 43) (c := 2) rfl rfl rfl rfl rfl rfl rfl rfl
  · refine (r_aload_n rfl rfl rfl).trans ?_
    refine (r_getR (ci := 9) (sl := 0) s_E rfl rfl rfl rfl (by decide) rfl rfl).trans ?_
    refine (r_getI (ci := 2) (sl := 9) rfl rfl rfl rfl (by decide)).trans ?_
    exact r_iret rfl rfl

theorem sg_X9_loose_30 {d : Nat} {E : pEv} {ro : Nat → Nat → Int32} {Q : Option Value → pH → Prop} (s_E : oE E) {x1 : Int32} {x2 : Int32} {x3 : Int32} : wG d 121 (30, [.ref 10, .int x1, .int x2, .int x3], [], mkH E ro) Q = wX d 41 [.ref 11] (mkH E ro) (fun v h' => wG d 121 (41, [.ref 10, .int x1, .int x2, .int x3], pv v [.ref 11], h') Q) := by
  refine (r_aload_n rfl rfl rfl).trans ?_
  refine (r_getR (ci := 9) (sl := 0) s_E rfl rfl rfl rfl (by decide) rfl rfl).trans ?_
  refine (r_aload_n rfl rfl rfl).trans ?_
  refine (r_getR (ci := 9) (sl := 0) s_E rfl rfl rfl rfl (by decide) rfl rfl).trans ?_
  exact r_inv (m := 41) (c := 2) rfl rfl rfl rfl rfl rfl rfl rfl

theorem sg_X9_loose_41 {d : Nat} {E : pEv} {ro : Nat → Nat → Int32} {Q : Option Value → pH → Prop} (s_E : oE E) {x1 : Int32} {x2 : Int32} {x3 : Int32} {xs1 : Int32} : wG d 121 (41, [.ref 10, .int x1, .int x2, .int x3], [.int xs1, .ref 11], mkH E ro) Q = wX d 42 [.ref 11, .int xs1] (mkH E ro) (fun v h' => wG d 121 (44, [.ref 10, .int x1, .int x2, .int x3], pv v [], h') Q) := by
  exact r_inv (m := 42) (c := 2) rfl rfl rfl rfl rfl rfl rfl rfl

theorem sg_X9_loose_44 {d : Nat} {E : pEv} {ro : Nat → Nat → Int32} {Q : Option Value → pH → Prop} (s_E : oE E) {x1 : Int32} {x2 : Int32} {x3 : Int32} : wG d 121 (44, [.ref 10, .int x1, .int x2, .int x3], [], mkH E ro) Q = wG d 121 (18, [.ref 10, .int x1, .int x2, .int (x3 + 1)], [], mkH E ro) Q := by
  refine (r_iinc (y := 1) rfl rfl rfl rfl rfl rfl).trans ?_
  refine (r_goto rfl rfl).trans ?_
  exact rfl

theorem en_X9_seed {d : Nat} {E : pEv} {ro : Nat → Nat → Int32} {Q : Option Value → pH → Prop} (s_E : oE E) {x1 : Int32} : wX (d + 1) 122 [.ref 10, .int x1] (mkH E ro) Q = Q (some (.int (ro 11 11))) (mkH E (uI ro 11 11 x1)) := by
  refine (wX_in rfl (by decide)).trans ?_
  show wG d 122 (0, [.ref 10, .int x1, .retAddr 0], [], mkH E ro) Q = _
  refine (r_aload_n rfl rfl rfl).trans ?_
  refine (r_getR (ci := 9) (sl := 0) s_E rfl rfl rfl rfl (by decide) rfl rfl).trans ?_
  refine (r_getI (ci := 2) (sl := 11) rfl rfl rfl rfl (by decide)).trans ?_
  refine (r_istore_n rfl rfl rfl rfl).trans ?_
  refine (r_aload_n rfl rfl rfl).trans ?_
  refine (r_getR (ci := 9) (sl := 0) s_E rfl rfl rfl rfl (by decide) rfl rfl).trans ?_
  refine (r_iload_n rfl rfl rfl).trans ?_
  refine (r_putI (ci := 2) (sl := 11) rfl rfl rfl rfl (by decide)).trans ?_
  refine (r_iload_n rfl rfl rfl).trans ?_
  exact r_iret rfl rfl

theorem en_X9_voice {d : Nat} {E : pEv} {ro : Nat → Nat → Int32} {Q : Option Value → pH → Prop} (s_E : oE E) {x1 : Int32} {x2 : Int32} {x3 : Int32} : wX (d + 1) 123 [.ref 10, .int x1, .int x2, .int x3] (mkH E ro) Q = wX d 137 [.ref 10, .int x1] (mkH E ro) (fun v h' => wG d 123 (5, [.ref 10, .int x1, .int x2, .int x3], pv v [], h') Q) := by
  refine (wX_in rfl (by decide)).trans ?_
  show wG d 123 (0, [.ref 10, .int x1, .int x2, .int x3], [], mkH E ro) Q = _
  refine (r_aload_n rfl rfl rfl).trans ?_
  refine (r_iload_n rfl rfl rfl).trans ?_
  exact r_inv (m := 137) (c := 9) rfl rfl rfl rfl rfl rfl rfl rfl

theorem sg_X9_voice_5 {d : Nat} {E : pEv} {ro : Nat → Nat → Int32} {Q : Option Value → pH → Prop} (s_E : oE E) {x1 : Int32} {x2 : Int32} {x3 : Int32} {xs0 : Int32} : wG d 123 (5, [.ref 10, .int x1, .int x2, .int x3], [.int xs0], mkH E ro) Q = (if xs0 = 0 then wX d 136 [.ref 10, .int (-1000000001)] (mkH E ro) (fun v h' => wG d 123 (23, [.ref 10, .int x1, .int x2, .int x3], pv v [], h') Q) else wX d 146 [.int x2, .int 0, .int 3] (mkH E ro) (fun v h' => wG d 123 (14, [.ref 10, .int x1, .int x2, .int x3], pv v [], h') Q)) := by
  refine (r_if_eq rfl rfl rfl).trans ?_
  refine ite_congr rfl (fun h_0 => ?_) (fun h_0 => ?_)
  · refine (r_aload_n rfl rfl rfl).trans ?_
    refine (r_ldc (v := (-1000000001)) rfl rfl rfl).trans ?_
    exact r_inv (m := 136) (c := 9) rfl rfl rfl rfl rfl rfl rfl rfl
  · refine (r_iload_n rfl rfl rfl).trans ?_
    refine (r_iconst (v := 0) rfl rfl rfl).trans ?_
    refine (r_iconst (v := 3) rfl rfl rfl).trans ?_
    exact r_ins (m := 146) rfl rfl rfl rfl rfl rfl

theorem sg_X9_voice_14 {d : Nat} {E : pEv} {ro : Nat → Nat → Int32} {Q : Option Value → pH → Prop} (s_E : oE E) {x1 : Int32} {x2 : Int32} {x3 : Int32} {xs0 : Int32} : wG d 123 (14, [.ref 10, .int x1, .int x2, .int x3], [.int xs0], mkH E ro) Q = (if xs0 = 0 then wX d 136 [.ref 10, .int (-1000000001)] (mkH E ro) (fun v h' => wG d 123 (23, [.ref 10, .int x1, .int x2, .int x3], pv v [], h') Q) else wX d 20 [.ref 11, .int x1] (mkH E ro) (fun v h' => wG d 123 (36, [.ref 10, .int x1, .int x2, .int x3], pv v [.ref 84], h') Q)) := by
  refine (r_if_ne rfl rfl rfl).trans ?_
  refine ite_congr rfl (fun h_0 => ?_) (fun h_0 => ?_)
  · refine (r_aload_n rfl rfl rfl).trans ?_
    refine (r_ldc (v := (-1000000001)) rfl rfl rfl).trans ?_
    exact r_inv (m := 136) (c := 9) rfl rfl rfl rfl rfl rfl rfl rfl
  · refine (r_aload_n rfl rfl rfl).trans ?_
    refine (r_getR (ci := 9) (sl := 5) s_E rfl rfl rfl rfl (by decide) rfl rfl).trans ?_
    refine (r_aload_n rfl rfl rfl).trans ?_
    refine (r_getR (ci := 9) (sl := 0) s_E rfl rfl rfl rfl (by decide) rfl rfl).trans ?_
    refine (r_iload_n rfl rfl rfl).trans ?_
    exact r_inv (m := 20) (c := 2) rfl rfl rfl rfl rfl rfl rfl rfl

theorem sg_X9_voice_23 {d : Nat} {E : pEv} {ro : Nat → Nat → Int32} {Q : Option Value → pH → Prop} (s_E : oE E) {x1 : Int32} {x2 : Int32} {x3 : Int32} {xs0 : Int32} : wG d 123 (23, [.ref 10, .int x1, .int x2, .int x3], [.int xs0], mkH E ro) Q = Q (some (.int xs0)) (mkH E ro) := by
  exact r_iret rfl rfl

theorem sg_X9_voice_36 {d : Nat} {E : pEv} {ro : Nat → Nat → Int32} {Q : Option Value → pH → Prop} (s_E : oE E) {x1 : Int32} {x2 : Int32} {x3 : Int32} {rs1 : Nat} (hs1 : oScene rs1) : wG d 123 (36, [.ref 10, .int x1, .int x2, .int x3], [.ref rs1, .ref 84], mkH E ro) Q = wX d 256 [.ref 84, .ref rs1, .int x2, .int x3] (mkH E ro) (fun v h' => wG d 123 (41, [.ref 10, .int x1, .int x2, .int x3], pv v [], h') Q) := by
  refine (r_iload_n rfl rfl rfl).trans ?_
  refine (r_iload_n rfl rfl rfl).trans ?_
  exact r_inv (m := 256) (c := 7) rfl rfl rfl rfl rfl rfl rfl rfl

theorem sg_X9_voice_41 {d : Nat} {E : pEv} {ro : Nat → Nat → Int32} {Q : Option Value → pH → Prop} (s_E : oE E) {x1 : Int32} {x2 : Int32} {x3 : Int32} {xs0 : Int32} : wG d 123 (41, [.ref 10, .int x1, .int x2, .int x3], [.int xs0], mkH E ro) Q = Q (some (.int xs0)) (mkH E ro) := by
  exact r_iret rfl rfl

theorem en_X9_trace {d : Nat} {E : pEv} {ro : Nat → Nat → Int32} {Q : Option Value → pH → Prop} (s_E : oE E) {x1 : Int32} : wX (d + 1) 124 [.ref 10, .int x1] (mkH E ro) Q = wX d 146 [.int x1, .int 0, .int ((ro 85 1) - 1)] (mkH E ro) (fun v h' => wG d 124 (17, [.ref 10, .int x1], pv v [], h') Q) := by
  refine (wX_in rfl (by decide)).trans ?_
  show wG d 124 (0, [.ref 10, .int x1], [], mkH E ro) Q = _
  refine (r_iload_n rfl rfl rfl).trans ?_
  refine (r_iconst (v := 0) rfl rfl rfl).trans ?_
  refine (r_aload_n rfl rfl rfl).trans ?_
  refine (r_getR (ci := 9) (sl := 5) s_E rfl rfl rfl rfl (by decide) rfl rfl).trans ?_
  refine (r_getR (ci := 7) (sl := 0) s_E rfl rfl rfl rfl (by decide) rfl rfl).trans ?_
  refine (r_getI (ci := 4) (sl := 1) rfl rfl rfl rfl (by decide)).trans ?_
  refine (r_iconst (v := 1) rfl rfl rfl).trans ?_
  refine (r_isub rfl rfl).trans ?_
  exact r_ins (m := 146) rfl rfl rfl rfl rfl rfl

theorem sg_X9_trace_17 {d : Nat} {E : pEv} {ro : Nat → Nat → Int32} {Q : Option Value → pH → Prop} (s_E : oE E) {x1 : Int32} {xs0 : Int32} : wG d 124 (17, [.ref 10, .int x1], [.int xs0], mkH E ro) Q = (if xs0 = 0 then wX d 136 [.ref 10, .int (-1000000002)] (mkH E ro) (fun v h' => wG d 124 (26, [.ref 10, .int x1], pv v [], h') Q) else wX d 57 [.ref 85, .int x1] (mkH E ro) (fun v h' => wG d 124 (38, [.ref 10, .int x1], pv v [], h') Q)) := by
  refine (r_if_ne rfl rfl rfl).trans ?_
  refine ite_congr rfl (fun h_0 => ?_) (fun h_0 => ?_)
  · refine (r_aload_n rfl rfl rfl).trans ?_
    refine (r_ldc (v := (-1000000002)) rfl rfl rfl).trans ?_
    exact r_inv (m := 136) (c := 9) rfl rfl rfl rfl rfl rfl rfl rfl
  · refine (r_aload_n rfl rfl rfl).trans ?_
    refine (r_getR (ci := 9) (sl := 5) s_E rfl rfl rfl rfl (by decide) rfl rfl).trans ?_
    refine (r_getR (ci := 7) (sl := 0) s_E rfl rfl rfl rfl (by decide) rfl rfl).trans ?_
    refine (r_iload_n rfl rfl rfl).trans ?_
    exact r_inv (m := 57) (c := 4) rfl rfl rfl rfl rfl rfl rfl rfl

theorem sg_X9_trace_26 {d : Nat} {E : pEv} {ro : Nat → Nat → Int32} {Q : Option Value → pH → Prop} (s_E : oE E) {x1 : Int32} {xs0 : Int32} : wG d 124 (26, [.ref 10, .int x1], [.int xs0], mkH E ro) Q = Q (some (.int xs0)) (mkH E ro) := by
  exact r_iret rfl rfl

theorem sg_X9_trace_38 {d : Nat} {E : pEv} {ro : Nat → Nat → Int32} {Q : Option Value → pH → Prop} (s_E : oE E) {x1 : Int32} {xs0 : Int32} : wG d 124 (38, [.ref 10, .int x1], [.int xs0], mkH E ro) Q = Q (some (.int xs0)) (mkH E ro) := by
  exact r_iret rfl rfl

theorem en_X9_sheet {d : Nat} {E : pEv} {ro : Nat → Nat → Int32} {Q : Option Value → pH → Prop} (s_E : oE E) {x1 : Int32} {x2 : Int32} {x3 : Int32} : wX (d + 1) 125 [.ref 10, .int x1, .int x2, .int x3] (mkH E ro) Q = wX d 142 [.int x1] (mkH E ro) (fun v h' => wG d 125 (4, [.ref 10, .int x1, .int x2, .int x3], pv v [], h') Q) := by
  refine (wX_in rfl (by decide)).trans ?_
  show wG d 125 (0, [.ref 10, .int x1, .int x2, .int x3], [], mkH E ro) Q = _
  refine (r_iload_n rfl rfl rfl).trans ?_
  exact r_ins (m := 142) rfl rfl rfl rfl rfl rfl

theorem sg_X9_sheet_4 {d : Nat} {E : pEv} {ro : Nat → Nat → Int32} {Q : Option Value → pH → Prop} (s_E : oE E) {x1 : Int32} {x2 : Int32} {x3 : Int32} {xs0 : Int32} : wG d 125 (4, [.ref 10, .int x1, .int x2, .int x3], [.int xs0], mkH E ro) Q = (if xs0 = 0 then wX d 136 [.ref 10, .int (-1000000001)] (mkH E ro) (fun v h' => wG d 125 (35, [.ref 10, .int x1, .int x2, .int x3], pv v [], h') Q) else (if x2 = 0 then (if x2 = 0 then (if x2 = 0 then wX d 143 [.ref 10, .int x1] (mkH E ro) (fun v h' => wG d 125 (74, [.ref 10, .int x1, .int x2, .int x3], pv v [], h') Q) else (if 40 < x3 then wX d 136 [.ref 10, .int (-1000000001)] (mkH E ro) (fun v h' => wG d 125 (68, [.ref 10, .int x1, .int x2, .int x3], pv v [], h') Q) else wX d 143 [.ref 10, .int x1] (mkH E ro) (fun v h' => wG d 125 (74, [.ref 10, .int x1, .int x2, .int x3], pv v [], h') Q))) else (if x3 < 0 then wX d 136 [.ref 10, .int (-1000000003)] (mkH E ro) (fun v h' => wG d 125 (51, [.ref 10, .int x1, .int x2, .int x3], pv v [], h') Q) else (if x2 = 0 then wX d 143 [.ref 10, .int x1] (mkH E ro) (fun v h' => wG d 125 (74, [.ref 10, .int x1, .int x2, .int x3], pv v [], h') Q) else (if 40 < x3 then wX d 136 [.ref 10, .int (-1000000001)] (mkH E ro) (fun v h' => wG d 125 (68, [.ref 10, .int x1, .int x2, .int x3], pv v [], h') Q) else wX d 143 [.ref 10, .int x1] (mkH E ro) (fun v h' => wG d 125 (74, [.ref 10, .int x1, .int x2, .int x3], pv v [], h') Q))))) else (if x2 = 8 then (if x2 = 0 then (if x2 = 0 then wX d 143 [.ref 10, .int x1] (mkH E ro) (fun v h' => wG d 125 (74, [.ref 10, .int x1, .int x2, .int x3], pv v [], h') Q) else (if 40 < x3 then wX d 136 [.ref 10, .int (-1000000001)] (mkH E ro) (fun v h' => wG d 125 (68, [.ref 10, .int x1, .int x2, .int x3], pv v [], h') Q) else wX d 143 [.ref 10, .int x1] (mkH E ro) (fun v h' => wG d 125 (74, [.ref 10, .int x1, .int x2, .int x3], pv v [], h') Q))) else (if x3 < 0 then wX d 136 [.ref 10, .int (-1000000003)] (mkH E ro) (fun v h' => wG d 125 (51, [.ref 10, .int x1, .int x2, .int x3], pv v [], h') Q) else (if x2 = 0 then wX d 143 [.ref 10, .int x1] (mkH E ro) (fun v h' => wG d 125 (74, [.ref 10, .int x1, .int x2, .int x3], pv v [], h') Q) else (if 40 < x3 then wX d 136 [.ref 10, .int (-1000000001)] (mkH E ro) (fun v h' => wG d 125 (68, [.ref 10, .int x1, .int x2, .int x3], pv v [], h') Q) else wX d 143 [.ref 10, .int x1] (mkH E ro) (fun v h' => wG d 125 (74, [.ref 10, .int x1, .int x2, .int x3], pv v [], h') Q))))) else (if x2 = 16 then (if x2 = 0 then (if x2 = 0 then wX d 143 [.ref 10, .int x1] (mkH E ro) (fun v h' => wG d 125 (74, [.ref 10, .int x1, .int x2, .int x3], pv v [], h') Q) else (if 40 < x3 then wX d 136 [.ref 10, .int (-1000000001)] (mkH E ro) (fun v h' => wG d 125 (68, [.ref 10, .int x1, .int x2, .int x3], pv v [], h') Q) else wX d 143 [.ref 10, .int x1] (mkH E ro) (fun v h' => wG d 125 (74, [.ref 10, .int x1, .int x2, .int x3], pv v [], h') Q))) else (if x3 < 0 then wX d 136 [.ref 10, .int (-1000000003)] (mkH E ro) (fun v h' => wG d 125 (51, [.ref 10, .int x1, .int x2, .int x3], pv v [], h') Q) else (if x2 = 0 then wX d 143 [.ref 10, .int x1] (mkH E ro) (fun v h' => wG d 125 (74, [.ref 10, .int x1, .int x2, .int x3], pv v [], h') Q) else (if 40 < x3 then wX d 136 [.ref 10, .int (-1000000001)] (mkH E ro) (fun v h' => wG d 125 (68, [.ref 10, .int x1, .int x2, .int x3], pv v [], h') Q) else wX d 143 [.ref 10, .int x1] (mkH E ro) (fun v h' => wG d 125 (74, [.ref 10, .int x1, .int x2, .int x3], pv v [], h') Q))))) else (if x2 = 32 then (if x2 = 0 then (if x2 = 0 then wX d 143 [.ref 10, .int x1] (mkH E ro) (fun v h' => wG d 125 (74, [.ref 10, .int x1, .int x2, .int x3], pv v [], h') Q) else (if 40 < x3 then wX d 136 [.ref 10, .int (-1000000001)] (mkH E ro) (fun v h' => wG d 125 (68, [.ref 10, .int x1, .int x2, .int x3], pv v [], h') Q) else wX d 143 [.ref 10, .int x1] (mkH E ro) (fun v h' => wG d 125 (74, [.ref 10, .int x1, .int x2, .int x3], pv v [], h') Q))) else (if x3 < 0 then wX d 136 [.ref 10, .int (-1000000003)] (mkH E ro) (fun v h' => wG d 125 (51, [.ref 10, .int x1, .int x2, .int x3], pv v [], h') Q) else (if x2 = 0 then wX d 143 [.ref 10, .int x1] (mkH E ro) (fun v h' => wG d 125 (74, [.ref 10, .int x1, .int x2, .int x3], pv v [], h') Q) else (if 40 < x3 then wX d 136 [.ref 10, .int (-1000000001)] (mkH E ro) (fun v h' => wG d 125 (68, [.ref 10, .int x1, .int x2, .int x3], pv v [], h') Q) else wX d 143 [.ref 10, .int x1] (mkH E ro) (fun v h' => wG d 125 (74, [.ref 10, .int x1, .int x2, .int x3], pv v [], h') Q))))) else wX d 136 [.ref 10, .int (-1000000001)] (mkH E ro) (fun v h' => wG d 125 (35, [.ref 10, .int x1, .int x2, .int x3], pv v [], h') Q)))))) := by
  refine (r_if_eq rfl rfl rfl).trans ?_
  refine ite_congr rfl (fun h_0 => ?_) (fun h_0 => ?_)
  · refine (r_aload_n rfl rfl rfl).trans ?_
    refine (r_ldc (v := (-1000000001)) rfl rfl rfl).trans ?_
    exact r_inv (m := 136) (c := 9) rfl rfl rfl rfl rfl rfl rfl rfl
  · refine (r_iload_n rfl rfl rfl).trans ?_
    refine (r_if_eq rfl rfl rfl).trans ?_
    refine ite_congr rfl (fun h_1 => ?_) (fun h_1 => ?_)
    · refine (r_iload_n rfl rfl rfl).trans ?_
      refine (r_if_eq rfl rfl rfl).trans ?_
      refine ite_congr rfl (fun h_2 => ?_) (fun h_2 => ?_)
      · refine (r_iload_n rfl rfl rfl).trans ?_
        refine (r_if_eq rfl rfl rfl).trans ?_
        refine ite_congr rfl (fun h_3 => ?_) (fun h_3 => ?_)
        · refine (r_aload_n rfl rfl rfl).trans ?_
          refine (r_iload_n rfl rfl rfl).trans ?_
          exact r_inv (m := 143) (c := 9) rfl rfl rfl rfl rfl rfl rfl rfl
        · refine (r_iload_n rfl rfl rfl).trans ?_
          refine (r_bipush (v := 40) rfl rfl rfl).trans ?_
          refine (r_icmp_le rfl rfl rfl).trans ?_
          refine ite_congr rfl (fun h_4 => ?_) (fun h_4 => ?_)
          · refine (r_aload_n rfl rfl rfl).trans ?_
            refine (r_ldc (v := (-1000000001)) rfl rfl rfl).trans ?_
            exact r_inv (m := 136) (c := 9) rfl rfl rfl rfl rfl rfl rfl rfl
          · refine (r_aload_n rfl rfl rfl).trans ?_
            refine (r_iload_n rfl rfl rfl).trans ?_
            exact r_inv (m := 143) (c := 9) rfl rfl rfl rfl rfl rfl rfl rfl
      · refine (r_iload_n rfl rfl rfl).trans ?_
        refine (r_if_ge rfl rfl rfl).trans ?_
        refine ite_congr rfl (fun h_3 => ?_) (fun h_3 => ?_)
        · refine (r_aload_n rfl rfl rfl).trans ?_
          refine (r_ldc_w (v := (-1000000003)) rfl rfl rfl).trans ?_
          exact r_inv (m := 136) (c := 9) rfl rfl rfl rfl rfl rfl rfl rfl
        · refine (r_iload_n rfl rfl rfl).trans ?_
          refine (r_if_eq rfl rfl rfl).trans ?_
          refine ite_congr rfl (fun h_4 => ?_) (fun h_4 => ?_)
          · refine (r_aload_n rfl rfl rfl).trans ?_
            refine (r_iload_n rfl rfl rfl).trans ?_
            exact r_inv (m := 143) (c := 9) rfl rfl rfl rfl rfl rfl rfl rfl
          · refine (r_iload_n rfl rfl rfl).trans ?_
            refine (r_bipush (v := 40) rfl rfl rfl).trans ?_
            refine (r_icmp_le rfl rfl rfl).trans ?_
            refine ite_congr rfl (fun h_5 => ?_) (fun h_5 => ?_)
            · refine (r_aload_n rfl rfl rfl).trans ?_
              refine (r_ldc (v := (-1000000001)) rfl rfl rfl).trans ?_
              exact r_inv (m := 136) (c := 9) rfl rfl rfl rfl rfl rfl rfl rfl
            · refine (r_aload_n rfl rfl rfl).trans ?_
              refine (r_iload_n rfl rfl rfl).trans ?_
              exact r_inv (m := 143) (c := 9) rfl rfl rfl rfl rfl rfl rfl rfl
    · refine (r_iload_n rfl rfl rfl).trans ?_
      refine (r_bipush (v := 8) rfl rfl rfl).trans ?_
      refine (r_icmp_eq rfl rfl rfl).trans ?_
      refine ite_congr rfl (fun h_2 => ?_) (fun h_2 => ?_)
      · refine (r_iload_n rfl rfl rfl).trans ?_
        refine (r_if_eq rfl rfl rfl).trans ?_
        refine ite_congr rfl (fun h_3 => ?_) (fun h_3 => ?_)
        · refine (r_iload_n rfl rfl rfl).trans ?_
          refine (r_if_eq rfl rfl rfl).trans ?_
          refine ite_congr rfl (fun h_4 => ?_) (fun h_4 => ?_)
          · refine (r_aload_n rfl rfl rfl).trans ?_
            refine (r_iload_n rfl rfl rfl).trans ?_
            exact r_inv (m := 143) (c := 9) rfl rfl rfl rfl rfl rfl rfl rfl
          · refine (r_iload_n rfl rfl rfl).trans ?_
            refine (r_bipush (v := 40) rfl rfl rfl).trans ?_
            refine (r_icmp_le rfl rfl rfl).trans ?_
            refine ite_congr rfl (fun h_5 => ?_) (fun h_5 => ?_)
            · refine (r_aload_n rfl rfl rfl).trans ?_
              refine (r_ldc (v := (-1000000001)) rfl rfl rfl).trans ?_
              exact r_inv (m := 136) (c := 9) rfl rfl rfl rfl rfl rfl rfl rfl
            · refine (r_aload_n rfl rfl rfl).trans ?_
              refine (r_iload_n rfl rfl rfl).trans ?_
              exact r_inv (m := 143) (c := 9) rfl rfl rfl rfl rfl rfl rfl rfl
        · refine (r_iload_n rfl rfl rfl).trans ?_
          refine (r_if_ge rfl rfl rfl).trans ?_
          refine ite_congr rfl (fun h_4 => ?_) (fun h_4 => ?_)
          · refine (r_aload_n rfl rfl rfl).trans ?_
            refine (r_ldc_w (v := (-1000000003)) rfl rfl rfl).trans ?_
            exact r_inv (m := 136) (c := 9) rfl rfl rfl rfl rfl rfl rfl rfl
          · refine (r_iload_n rfl rfl rfl).trans ?_
            refine (r_if_eq rfl rfl rfl).trans ?_
            refine ite_congr rfl (fun h_5 => ?_) (fun h_5 => ?_)
            · refine (r_aload_n rfl rfl rfl).trans ?_
              refine (r_iload_n rfl rfl rfl).trans ?_
              exact r_inv (m := 143) (c := 9) rfl rfl rfl rfl rfl rfl rfl rfl
            · refine (r_iload_n rfl rfl rfl).trans ?_
              refine (r_bipush (v := 40) rfl rfl rfl).trans ?_
              refine (r_icmp_le rfl rfl rfl).trans ?_
              refine ite_congr rfl (fun h_6 => ?_) (fun h_6 => ?_)
              · refine (r_aload_n rfl rfl rfl).trans ?_
                refine (r_ldc (v := (-1000000001)) rfl rfl rfl).trans ?_
                exact r_inv (m := 136) (c := 9) rfl rfl rfl rfl rfl rfl rfl rfl
              · refine (r_aload_n rfl rfl rfl).trans ?_
                refine (r_iload_n rfl rfl rfl).trans ?_
                exact r_inv (m := 143) (c := 9) rfl rfl rfl rfl rfl rfl rfl rfl
      · refine (r_iload_n rfl rfl rfl).trans ?_
        refine (r_bipush (v := 16) rfl rfl rfl).trans ?_
        refine (r_icmp_eq rfl rfl rfl).trans ?_
        refine ite_congr rfl (fun h_3 => ?_) (fun h_3 => ?_)
        · refine (r_iload_n rfl rfl rfl).trans ?_
          refine (r_if_eq rfl rfl rfl).trans ?_
          refine ite_congr rfl (fun h_4 => ?_) (fun h_4 => ?_)
          · refine (r_iload_n rfl rfl rfl).trans ?_
            refine (r_if_eq rfl rfl rfl).trans ?_
            refine ite_congr rfl (fun h_5 => ?_) (fun h_5 => ?_)
            · refine (r_aload_n rfl rfl rfl).trans ?_
              refine (r_iload_n rfl rfl rfl).trans ?_
              exact r_inv (m := 143) (c := 9) rfl rfl rfl rfl rfl rfl rfl rfl
            · refine (r_iload_n rfl rfl rfl).trans ?_
              refine (r_bipush (v := 40) rfl rfl rfl).trans ?_
              refine (r_icmp_le rfl rfl rfl).trans ?_
              refine ite_congr rfl (fun h_6 => ?_) (fun h_6 => ?_)
              · refine (r_aload_n rfl rfl rfl).trans ?_
                refine (r_ldc (v := (-1000000001)) rfl rfl rfl).trans ?_
                exact r_inv (m := 136) (c := 9) rfl rfl rfl rfl rfl rfl rfl rfl
              · refine (r_aload_n rfl rfl rfl).trans ?_
                refine (r_iload_n rfl rfl rfl).trans ?_
                exact r_inv (m := 143) (c := 9) rfl rfl rfl rfl rfl rfl rfl rfl
          · refine (r_iload_n rfl rfl rfl).trans ?_
            refine (r_if_ge rfl rfl rfl).trans ?_
            refine ite_congr rfl (fun h_5 => ?_) (fun h_5 => ?_)
            · refine (r_aload_n rfl rfl rfl).trans ?_
              refine (r_ldc_w (v := (-1000000003)) rfl rfl rfl).trans ?_
              exact r_inv (m := 136) (c := 9) rfl rfl rfl rfl rfl rfl rfl rfl
            · refine (r_iload_n rfl rfl rfl).trans ?_
              refine (r_if_eq rfl rfl rfl).trans ?_
              refine ite_congr rfl (fun h_6 => ?_) (fun h_6 => ?_)
              · refine (r_aload_n rfl rfl rfl).trans ?_
                refine (r_iload_n rfl rfl rfl).trans ?_
                exact r_inv (m := 143) (c := 9) rfl rfl rfl rfl rfl rfl rfl rfl
              · refine (r_iload_n rfl rfl rfl).trans ?_
                refine (r_bipush (v := 40) rfl rfl rfl).trans ?_
                refine (r_icmp_le rfl rfl rfl).trans ?_
                refine ite_congr rfl (fun h_7 => ?_) (fun h_7 => ?_)
                · refine (r_aload_n rfl rfl rfl).trans ?_
                  refine (r_ldc (v := (-1000000001)) rfl rfl rfl).trans ?_
                  exact r_inv (m := 136) (c := 9) rfl rfl rfl rfl rfl rfl rfl rfl
                · refine (r_aload_n rfl rfl rfl).trans ?_
                  refine (r_iload_n rfl rfl rfl).trans ?_
                  exact r_inv (m := 143) (c := 9) rfl rfl rfl rfl rfl rfl rfl rfl
        · refine (r_iload_n rfl rfl rfl).trans ?_
          refine (r_bipush (v := 32) rfl rfl rfl).trans ?_
          refine (r_icmp_eq rfl rfl rfl).trans ?_
          refine ite_congr rfl (fun h_4 => ?_) (fun h_4 => ?_)
          · refine (r_iload_n rfl rfl rfl).trans ?_
            refine (r_if_eq rfl rfl rfl).trans ?_
            refine ite_congr rfl (fun h_5 => ?_) (fun h_5 => ?_)
            · refine (r_iload_n rfl rfl rfl).trans ?_
              refine (r_if_eq rfl rfl rfl).trans ?_
              refine ite_congr rfl (fun h_6 => ?_) (fun h_6 => ?_)
              · refine (r_aload_n rfl rfl rfl).trans ?_
                refine (r_iload_n rfl rfl rfl).trans ?_
                exact r_inv (m := 143) (c := 9) rfl rfl rfl rfl rfl rfl rfl rfl
              · refine (r_iload_n rfl rfl rfl).trans ?_
                refine (r_bipush (v := 40) rfl rfl rfl).trans ?_
                refine (r_icmp_le rfl rfl rfl).trans ?_
                refine ite_congr rfl (fun h_7 => ?_) (fun h_7 => ?_)
                · refine (r_aload_n rfl rfl rfl).trans ?_
                  refine (r_ldc (v := (-1000000001)) rfl rfl rfl).trans ?_
                  exact r_inv (m := 136) (c := 9) rfl rfl rfl rfl rfl rfl rfl rfl
                · refine (r_aload_n rfl rfl rfl).trans ?_
                  refine (r_iload_n rfl rfl rfl).trans ?_
                  exact r_inv (m := 143) (c := 9) rfl rfl rfl rfl rfl rfl rfl rfl
            · refine (r_iload_n rfl rfl rfl).trans ?_
              refine (r_if_ge rfl rfl rfl).trans ?_
              refine ite_congr rfl (fun h_6 => ?_) (fun h_6 => ?_)
              · refine (r_aload_n rfl rfl rfl).trans ?_
                refine (r_ldc_w (v := (-1000000003)) rfl rfl rfl).trans ?_
                exact r_inv (m := 136) (c := 9) rfl rfl rfl rfl rfl rfl rfl rfl
              · refine (r_iload_n rfl rfl rfl).trans ?_
                refine (r_if_eq rfl rfl rfl).trans ?_
                refine ite_congr rfl (fun h_7 => ?_) (fun h_7 => ?_)
                · refine (r_aload_n rfl rfl rfl).trans ?_
                  refine (r_iload_n rfl rfl rfl).trans ?_
                  exact r_inv (m := 143) (c := 9) rfl rfl rfl rfl rfl rfl rfl rfl
                · refine (r_iload_n rfl rfl rfl).trans ?_
                  refine (r_bipush (v := 40) rfl rfl rfl).trans ?_
                  refine (r_icmp_le rfl rfl rfl).trans ?_
                  refine ite_congr rfl (fun h_8 => ?_) (fun h_8 => ?_)
                  · refine (r_aload_n rfl rfl rfl).trans ?_
                    refine (r_ldc (v := (-1000000001)) rfl rfl rfl).trans ?_
                    exact r_inv (m := 136) (c := 9) rfl rfl rfl rfl rfl rfl rfl rfl
                  · refine (r_aload_n rfl rfl rfl).trans ?_
                    refine (r_iload_n rfl rfl rfl).trans ?_
                    exact r_inv (m := 143) (c := 9) rfl rfl rfl rfl rfl rfl rfl rfl
          · refine (r_aload_n rfl rfl rfl).trans ?_
            refine (r_ldc (v := (-1000000001)) rfl rfl rfl).trans ?_
            exact r_inv (m := 136) (c := 9) rfl rfl rfl rfl rfl rfl rfl rfl

theorem sg_X9_sheet_35 {d : Nat} {E : pEv} {ro : Nat → Nat → Int32} {Q : Option Value → pH → Prop} (s_E : oE E) {x1 : Int32} {x2 : Int32} {x3 : Int32} {xs0 : Int32} : wG d 125 (35, [.ref 10, .int x1, .int x2, .int x3], [.int xs0], mkH E ro) Q = Q (some (.int xs0)) (mkH E ro) := by
  exact r_iret rfl rfl

theorem sg_X9_sheet_51 {d : Nat} {E : pEv} {ro : Nat → Nat → Int32} {Q : Option Value → pH → Prop} (s_E : oE E) {x1 : Int32} {x2 : Int32} {x3 : Int32} {xs0 : Int32} : wG d 125 (51, [.ref 10, .int x1, .int x2, .int x3], [.int xs0], mkH E ro) Q = Q (some (.int xs0)) (mkH E ro) := by
  exact r_iret rfl rfl

theorem sg_X9_sheet_68 {d : Nat} {E : pEv} {ro : Nat → Nat → Int32} {Q : Option Value → pH → Prop} (s_E : oE E) {x1 : Int32} {x2 : Int32} {x3 : Int32} {xs0 : Int32} : wG d 125 (68, [.ref 10, .int x1, .int x2, .int x3], [.int xs0], mkH E ro) Q = Q (some (.int xs0)) (mkH E ro) := by
  exact r_iret rfl rfl

theorem sg_X9_sheet_74 {d : Nat} {E : pEv} {ro : Nat → Nat → Int32} {Q : Option Value → pH → Prop} (s_E : oE E) {x1 : Int32} {x2 : Int32} {x3 : Int32} {rs0 : Nat} (hs0 : oSheet rs0) : wG d 125 (74, [.ref 10, .int x1, .int x2, .int x3], [.ref rs0], mkH E ro) Q = wX d 84 [.ref rs0, .int x2, .int x3] (mkH E ro) (fun v h' => wG d 125 (79, [.ref 10, .int x1, .int x2, .int x3], pv v [], h') Q) := by
  refine (r_iload_n rfl rfl rfl).trans ?_
  refine (r_iload_n rfl rfl rfl).trans ?_
  exact r_inv (m := 84) (c := 6) rfl rfl rfl rfl rfl rfl hs0.2.1 rfl

theorem sg_X9_sheet_79 {d : Nat} {E : pEv} {ro : Nat → Nat → Int32} {Q : Option Value → pH → Prop} (s_E : oE E) {x1 : Int32} {x2 : Int32} {x3 : Int32} : wG d 125 (79, [.ref 10, .int x1, .int x2, .int x3], [], mkH E ro) Q = Q (some (.int 1)) (mkH E ro) := by
  refine (r_iconst (v := 1) rfl rfl rfl).trans ?_
  exact r_iret rfl rfl

theorem en_X9_put {d : Nat} {E : pEv} {ro : Nat → Nat → Int32} {Q : Option Value → pH → Prop} (s_E : oE E) {x1 : Int32} {x2 : Int32} {x3 : Int32} : wX (d + 1) 126 [.ref 10, .int x1, .int x2, .int x3] (mkH E ro) Q = wX d 144 [.ref 10, .int x1] (mkH E ro) (fun v h' => wG d 126 (5, [.ref 10, .int x1, .int x2, .int x3, .retAddr 0], pv v [], h') Q) := by
  refine (wX_in rfl (by decide)).trans ?_
  show wG d 126 (0, [.ref 10, .int x1, .int x2, .int x3, .retAddr 0], [], mkH E ro) Q = _
  refine (r_aload_n rfl rfl rfl).trans ?_
  refine (r_iload_n rfl rfl rfl).trans ?_
  exact r_inv (m := 144) (c := 9) rfl rfl rfl rfl rfl rfl rfl rfl

theorem sg_X9_put_5 {d : Nat} {E : pEv} {ro : Nat → Nat → Int32} {Q : Option Value → pH → Prop} (s_E : oE E) {x1 : Int32} {x2 : Int32} {x3 : Int32} {v4 : Value} {xs0 : Int32} : wG d 126 (5, [.ref 10, .int x1, .int x2, .int x3, v4], [.int xs0], mkH E ro) Q = (if xs0 = 0 then wX d 143 [.ref 10, .int x1] (mkH E ro) (fun v h' => wG d 126 (26, [.ref 10, .int x1, .int x2, .int x3, .int xs0], pv v [.int 0, .int x2], h') Q) else wX d 136 [.ref 10, .int xs0] (mkH E ro) (fun v h' => wG d 126 (18, [.ref 10, .int x1, .int x2, .int x3, .int xs0], pv v [], h') Q)) := by
  refine (r_istore rfl rfl rfl rfl).trans ?_
  refine (r_iload rfl rfl rfl).trans ?_
  refine (r_if_eq rfl rfl rfl).trans ?_
  refine ite_congr rfl (fun h_0 => ?_) (fun h_0 => ?_)
  · refine (r_iload_n rfl rfl rfl).trans ?_
    refine (r_iconst (v := 0) rfl rfl rfl).trans ?_
    refine (r_aload_n rfl rfl rfl).trans ?_
    refine (r_iload_n rfl rfl rfl).trans ?_
    exact r_inv (m := 143) (c := 9) rfl rfl rfl rfl rfl rfl rfl rfl
  · refine (r_aload_n rfl rfl rfl).trans ?_
    refine (r_iload rfl rfl rfl).trans ?_
    exact r_inv (m := 136) (c := 9) rfl rfl rfl rfl rfl rfl rfl rfl

theorem sg_X9_put_18 {d : Nat} {E : pEv} {ro : Nat → Nat → Int32} {Q : Option Value → pH → Prop} (s_E : oE E) {x1 : Int32} {x2 : Int32} {x3 : Int32} {x4 : Int32} {xs0 : Int32} : wG d 126 (18, [.ref 10, .int x1, .int x2, .int x3, .int x4], [.int xs0], mkH E ro) Q = Q (some (.int xs0)) (mkH E ro) := by
  exact r_iret rfl rfl

theorem sg_X9_put_26 {d : Nat} {E : pEv} {ro : Nat → Nat → Int32} {Q : Option Value → pH → Prop} (s_E : oE E) {x1 : Int32} {x2 : Int32} {x3 : Int32} {x4 : Int32} {xs0 : Int32} {xs1 : Int32} {rs2 : Nat} (hs2 : oSheet rs2) : wG d 126 (26, [.ref 10, .int x1, .int x2, .int x3, .int x4], [.ref rs2, .int xs1, .int xs0], mkH E ro) Q = wX d 146 [.int xs0, .int xs1, .int ((ro (rs2 + 1) 1) - 1)] (mkH E ro) (fun v h' => wG d 126 (37, [.ref 10, .int x1, .int x2, .int x3, .int x4], pv v [], h') Q) := by
  refine (r_getR (ci := 6) (sl := 0) s_E rfl rfl rfl hs2.2.1 hs2.1 hs2.2.2.1 (n81 hs2.2.1 (by decide))).trans ?_
  refine (r_getI (ci := 4) (sl := 1) rfl rfl rfl hs2.2.2.2.2.1 hs2.2.2.2.1).trans ?_
  refine (r_iconst (v := 1) rfl rfl rfl).trans ?_
  refine (r_isub rfl rfl).trans ?_
  exact r_ins (m := 146) rfl rfl rfl rfl rfl rfl

theorem sg_X9_put_37 {d : Nat} {E : pEv} {ro : Nat → Nat → Int32} {Q : Option Value → pH → Prop} (s_E : oE E) {x1 : Int32} {x2 : Int32} {x3 : Int32} {x4 : Int32} {xs0 : Int32} : wG d 126 (37, [.ref 10, .int x1, .int x2, .int x3, .int x4], [.int xs0], mkH E ro) Q = (if xs0 = 0 then wX d 136 [.ref 10, .int (-1000000001)] (mkH E ro) (fun v h' => wG d 126 (46, [.ref 10, .int x1, .int x2, .int x3, .int x4], pv v [], h') Q) else wX d 143 [.ref 10, .int x1] (mkH E ro) (fun v h' => wG d 126 (52, [.ref 10, .int x1, .int x2, .int x3, .int x4], pv v [], h') Q)) := by
  refine (r_if_ne rfl rfl rfl).trans ?_
  refine ite_congr rfl (fun h_0 => ?_) (fun h_0 => ?_)
  · refine (r_aload_n rfl rfl rfl).trans ?_
    refine (r_ldc (v := (-1000000001)) rfl rfl rfl).trans ?_
    exact r_inv (m := 136) (c := 9) rfl rfl rfl rfl rfl rfl rfl rfl
  · refine (r_aload_n rfl rfl rfl).trans ?_
    refine (r_iload_n rfl rfl rfl).trans ?_
    exact r_inv (m := 143) (c := 9) rfl rfl rfl rfl rfl rfl rfl rfl

theorem sg_X9_put_46 {d : Nat} {E : pEv} {ro : Nat → Nat → Int32} {Q : Option Value → pH → Prop} (s_E : oE E) {x1 : Int32} {x2 : Int32} {x3 : Int32} {x4 : Int32} {xs0 : Int32} : wG d 126 (46, [.ref 10, .int x1, .int x2, .int x3, .int x4], [.int xs0], mkH E ro) Q = Q (some (.int xs0)) (mkH E ro) := by
  exact r_iret rfl rfl

theorem sg_X9_put_52 {d : Nat} {E : pEv} {ro : Nat → Nat → Int32} {Q : Option Value → pH → Prop} (s_E : oE E) {x1 : Int32} {x2 : Int32} {x3 : Int32} {x4 : Int32} {rs0 : Nat} (hs0 : oSheet rs0) : wG d 126 (52, [.ref 10, .int x1, .int x2, .int x3, .int x4], [.ref rs0], mkH E ro) Q = wX d 85 [.ref rs0, .int x2, .int x3] (mkH E ro) (fun v h' => wG d 126 (57, [.ref 10, .int x1, .int x2, .int x3, .int x4], pv v [], h') Q) := by
  refine (r_iload_n rfl rfl rfl).trans ?_
  refine (r_iload_n rfl rfl rfl).trans ?_
  exact r_inv (m := 85) (c := 6) rfl rfl rfl rfl rfl rfl hs0.2.1 rfl

theorem sg_X9_put_57 {d : Nat} {E : pEv} {ro : Nat → Nat → Int32} {Q : Option Value → pH → Prop} (s_E : oE E) {x1 : Int32} {x2 : Int32} {x3 : Int32} {x4 : Int32} : wG d 126 (57, [.ref 10, .int x1, .int x2, .int x3, .int x4], [], mkH E ro) Q = Q (some (.int 1)) (mkH E ro) := by
  refine (r_iconst (v := 1) rfl rfl rfl).trans ?_
  exact r_iret rfl rfl

theorem en_X9_move {d : Nat} {E : pEv} {ro : Nat → Nat → Int32} {Q : Option Value → pH → Prop} (s_E : oE E) {x1 : Int32} {x2 : Int32} {x3 : Int32} {x4 : Int32} {x5 : Int32} : wX (d + 1) 127 [.ref 10, .int x1, .int x2, .int x3, .int x4, .int x5] (mkH E ro) Q = wX d 142 [.int x1] (mkH E ro) (fun v h' => wG d 127 (4, [.ref 10, .int x1, .int x2, .int x3, .int x4, .int x5, .retAddr 0, .retAddr 0], pv v [], h') Q) := by
  refine (wX_in rfl (by decide)).trans ?_
  show wG d 127 (0, [.ref 10, .int x1, .int x2, .int x3, .int x4, .int x5, .retAddr 0, .retAddr 0], [], mkH E ro) Q = _
  refine (r_iload_n rfl rfl rfl).trans ?_
  exact r_ins (m := 142) rfl rfl rfl rfl rfl rfl

theorem sg_X9_move_4 {d : Nat} {E : pEv} {ro : Nat → Nat → Int32} {Q : Option Value → pH → Prop} (s_E : oE E) {x1 : Int32} {x2 : Int32} {x3 : Int32} {x4 : Int32} {x5 : Int32} {v6 : Value} {v7 : Value} {xs0 : Int32} : wG d 127 (4, [.ref 10, .int x1, .int x2, .int x3, .int x4, .int x5, v6, v7], [.int xs0], mkH E ro) Q = (if xs0 = 0 then wX d 136 [.ref 10, .int (-1000000001)] (mkH E ro) (fun v h' => wG d 127 (20, [.ref 10, .int x1, .int x2, .int x3, .int x4, .int x5, v6, v7], pv v [], h') Q) else wX d 142 [.int x3] (mkH E ro) (fun v h' => wG d 127 (11, [.ref 10, .int x1, .int x2, .int x3, .int x4, .int x5, v6, v7], pv v [], h') Q)) := by
  refine (r_if_eq rfl rfl rfl).trans ?_
  refine ite_congr rfl (fun h_0 => ?_) (fun h_0 => ?_)
  · refine (r_aload_n rfl rfl rfl).trans ?_
    refine (r_ldc (v := (-1000000001)) rfl rfl rfl).trans ?_
    exact r_inv (m := 136) (c := 9) rfl rfl rfl rfl rfl rfl rfl rfl
  · refine (r_iload_n rfl rfl rfl).trans ?_
    exact r_ins (m := 142) rfl rfl rfl rfl rfl rfl

theorem sg_X9_move_11 {d : Nat} {E : pEv} {ro : Nat → Nat → Int32} {Q : Option Value → pH → Prop} (s_E : oE E) {x1 : Int32} {x2 : Int32} {x3 : Int32} {x4 : Int32} {x5 : Int32} {v6 : Value} {v7 : Value} {xs0 : Int32} : wG d 127 (11, [.ref 10, .int x1, .int x2, .int x3, .int x4, .int x5, v6, v7], [.int xs0], mkH E ro) Q = (if xs0 = 0 then wX d 136 [.ref 10, .int (-1000000001)] (mkH E ro) (fun v h' => wG d 127 (20, [.ref 10, .int x1, .int x2, .int x3, .int x4, .int x5, v6, v7], pv v [], h') Q) else wX d 143 [.ref 10, .int x1] (mkH E ro) (fun v h' => wG d 127 (26, [.ref 10, .int x1, .int x2, .int x3, .int x4, .int x5, v6, v7], pv v [], h') Q)) := by
  refine (r_if_ne rfl rfl rfl).trans ?_
  refine ite_congr rfl (fun h_0 => ?_) (fun h_0 => ?_)
  · refine (r_aload_n rfl rfl rfl).trans ?_
    refine (r_ldc (v := (-1000000001)) rfl rfl rfl).trans ?_
    exact r_inv (m := 136) (c := 9) rfl rfl rfl rfl rfl rfl rfl rfl
  · refine (r_aload_n rfl rfl rfl).trans ?_
    refine (r_iload_n rfl rfl rfl).trans ?_
    exact r_inv (m := 143) (c := 9) rfl rfl rfl rfl rfl rfl rfl rfl

theorem sg_X9_move_20 {d : Nat} {E : pEv} {ro : Nat → Nat → Int32} {Q : Option Value → pH → Prop} (s_E : oE E) {x1 : Int32} {x2 : Int32} {x3 : Int32} {x4 : Int32} {x5 : Int32} {v6 : Value} {v7 : Value} {xs0 : Int32} : wG d 127 (20, [.ref 10, .int x1, .int x2, .int x3, .int x4, .int x5, v6, v7], [.int xs0], mkH E ro) Q = Q (some (.int xs0)) (mkH E ro) := by
  exact r_iret rfl rfl

theorem sg_X9_move_26 {d : Nat} {E : pEv} {ro : Nat → Nat → Int32} {Q : Option Value → pH → Prop} (s_E : oE E) {x1 : Int32} {x2 : Int32} {x3 : Int32} {x4 : Int32} {x5 : Int32} {v6 : Value} {v7 : Value} {rs0 : Nat} (hs0 : oSheet rs0) : wG d 127 (26, [.ref 10, .int x1, .int x2, .int x3, .int x4, .int x5, v6, v7], [.ref rs0], mkH E ro) Q = wX d 143 [.ref 10, .int x3] (mkH E ro) (fun v h' => wG d 127 (33, [.ref 10, .int x1, .int x2, .int x3, .int x4, .int x5, .ref rs0, v7], pv v [], h') Q) := by
  refine (r_astore rfl rfl rfl rfl).trans ?_
  refine (r_aload_n rfl rfl rfl).trans ?_
  refine (r_iload_n rfl rfl rfl).trans ?_
  exact r_inv (m := 143) (c := 9) rfl rfl rfl rfl rfl rfl rfl rfl

theorem sg_X9_move_33 {d : Nat} {E : pEv} {ro : Nat → Nat → Int32} {Q : Option Value → pH → Prop} (s_E : oE E) {x1 : Int32} {x2 : Int32} {x3 : Int32} {x4 : Int32} {x5 : Int32} {r6 : Nat} (h6 : oSheet r6) {v7 : Value} {rs0 : Nat} (hs0 : oSheet rs0) : wG d 127 (33, [.ref 10, .int x1, .int x2, .int x3, .int x4, .int x5, .ref r6, v7], [.ref rs0], mkH E ro) Q = (if (ro r6 1) = 0 then wX d 136 [.ref 10, .int (-1000000002)] (mkH E ro) (fun v h' => wG d 127 (57, [.ref 10, .int x1, .int x2, .int x3, .int x4, .int x5, .ref r6, .ref rs0], pv v [], h') Q) else (if (ro rs0 1) = 0 then wX d 136 [.ref 10, .int (-1000000002)] (mkH E ro) (fun v h' => wG d 127 (57, [.ref 10, .int x1, .int x2, .int x3, .int x4, .int x5, .ref r6, .ref rs0], pv v [], h') Q) else (if (ro r6 1) = (ro rs0 1) then wX d 70 [.ref (r6 + 1), .int x2, .int x5] (mkH E ro) (fun v h' => wG d 127 (89, [.ref 10, .int x1, .int x2, .int x3, .int x4, .int x5, .ref r6, .ref rs0], pv v [], h') Q) else wX d 136 [.ref 10, .int (-1000000005)] (mkH E ro) (fun v h' => wG d 127 (77, [.ref 10, .int x1, .int x2, .int x3, .int x4, .int x5, .ref r6, .ref rs0], pv v [], h') Q)))) := by
  refine (r_astore rfl rfl rfl rfl).trans ?_
  refine (r_aload rfl rfl rfl).trans ?_
  refine (r_getI (ci := 6) (sl := 1) rfl rfl rfl h6.2.1 h6.1).trans ?_
  refine (r_if_eq rfl rfl rfl).trans ?_
  refine ite_congr rfl (fun h_0 => ?_) (fun h_0 => ?_)
  · refine (r_aload_n rfl rfl rfl).trans ?_
    refine (r_ldc (v := (-1000000002)) rfl rfl rfl).trans ?_
    exact r_inv (m := 136) (c := 9) rfl rfl rfl rfl rfl rfl rfl rfl
  · refine (r_aload rfl rfl rfl).trans ?_
    refine (r_getI (ci := 6) (sl := 1) rfl rfl rfl hs0.2.1 hs0.1).trans ?_
    refine (r_if_ne rfl rfl rfl).trans ?_
    refine ite_congr rfl (fun h_1 => ?_) (fun h_1 => ?_)
    · refine (r_aload_n rfl rfl rfl).trans ?_
      refine (r_ldc (v := (-1000000002)) rfl rfl rfl).trans ?_
      exact r_inv (m := 136) (c := 9) rfl rfl rfl rfl rfl rfl rfl rfl
    · refine (r_aload rfl rfl rfl).trans ?_
      refine (r_getI (ci := 6) (sl := 1) rfl rfl rfl h6.2.1 h6.1).trans ?_
      refine (r_aload rfl rfl rfl).trans ?_
      refine (r_getI (ci := 6) (sl := 1) rfl rfl rfl hs0.2.1 hs0.1).trans ?_
      refine (r_icmp_eq rfl rfl rfl).trans ?_
      refine ite_congr rfl (fun h_2 => ?_) (fun h_2 => ?_)
      · refine (r_aload rfl rfl rfl).trans ?_
        refine (r_getR (ci := 6) (sl := 0) s_E rfl rfl rfl h6.2.1 h6.1 h6.2.2.1 (n81 h6.2.1 (by decide))).trans ?_
        refine (r_iload_n rfl rfl rfl).trans ?_
        refine (r_iload rfl rfl rfl).trans ?_
        exact r_inv (m := 70) (c := 4) rfl rfl rfl rfl rfl rfl h6.2.2.2.2.1 rfl
      · refine (r_aload_n rfl rfl rfl).trans ?_
        refine (r_ldc (v := (-1000000005)) rfl rfl rfl).trans ?_
        exact r_inv (m := 136) (c := 9) rfl rfl rfl rfl rfl rfl rfl rfl

theorem sg_X9_move_57 {d : Nat} {E : pEv} {ro : Nat → Nat → Int32} {Q : Option Value → pH → Prop} (s_E : oE E) {x1 : Int32} {x2 : Int32} {x3 : Int32} {x4 : Int32} {x5 : Int32} {r6 : Nat} (h6 : oSheet r6) {r7 : Nat} (h7 : oSheet r7) {xs0 : Int32} : wG d 127 (57, [.ref 10, .int x1, .int x2, .int x3, .int x4, .int x5, .ref r6, .ref r7], [.int xs0], mkH E ro) Q = Q (some (.int xs0)) (mkH E ro) := by
  exact r_iret rfl rfl

theorem sg_X9_move_77 {d : Nat} {E : pEv} {ro : Nat → Nat → Int32} {Q : Option Value → pH → Prop} (s_E : oE E) {x1 : Int32} {x2 : Int32} {x3 : Int32} {x4 : Int32} {x5 : Int32} {r6 : Nat} (h6 : oSheet r6) {r7 : Nat} (h7 : oSheet r7) {xs0 : Int32} : wG d 127 (77, [.ref 10, .int x1, .int x2, .int x3, .int x4, .int x5, .ref r6, .ref r7], [.int xs0], mkH E ro) Q = Q (some (.int xs0)) (mkH E ro) := by
  exact r_iret rfl rfl

theorem sg_X9_move_89 {d : Nat} {E : pEv} {ro : Nat → Nat → Int32} {Q : Option Value → pH → Prop} (s_E : oE E) {x1 : Int32} {x2 : Int32} {x3 : Int32} {x4 : Int32} {x5 : Int32} {r6 : Nat} (h6 : oSheet r6) {r7 : Nat} (h7 : oSheet r7) {xs0 : Int32} : wG d 127 (89, [.ref 10, .int x1, .int x2, .int x3, .int x4, .int x5, .ref r6, .ref r7], [.int xs0], mkH E ro) Q = (if xs0 = 0 then wX d 136 [.ref 10, .int (-1000000001)] (mkH E ro) (fun v h' => wG d 127 (113, [.ref 10, .int x1, .int x2, .int x3, .int x4, .int x5, .ref r6, .ref r7], pv v [], h') Q) else wX d 70 [.ref (r7 + 1), .int x4, .int x5] (mkH E ro) (fun v h' => wG d 127 (104, [.ref 10, .int x1, .int x2, .int x3, .int x4, .int x5, .ref r6, .ref r7], pv v [], h') Q)) := by
  refine (r_if_eq rfl rfl rfl).trans ?_
  refine ite_congr rfl (fun h_0 => ?_) (fun h_0 => ?_)
  · refine (r_aload_n rfl rfl rfl).trans ?_
    refine (r_ldc (v := (-1000000001)) rfl rfl rfl).trans ?_
    exact r_inv (m := 136) (c := 9) rfl rfl rfl rfl rfl rfl rfl rfl
  · refine (r_aload rfl rfl rfl).trans ?_
    refine (r_getR (ci := 6) (sl := 0) s_E rfl rfl rfl h7.2.1 h7.1 h7.2.2.1 (n81 h7.2.1 (by decide))).trans ?_
    refine (r_iload rfl rfl rfl).trans ?_
    refine (r_iload rfl rfl rfl).trans ?_
    exact r_inv (m := 70) (c := 4) rfl rfl rfl rfl rfl rfl h7.2.2.2.2.1 rfl

theorem sg_X9_move_104 {d : Nat} {E : pEv} {ro : Nat → Nat → Int32} {Q : Option Value → pH → Prop} (s_E : oE E) {x1 : Int32} {x2 : Int32} {x3 : Int32} {x4 : Int32} {x5 : Int32} {r6 : Nat} (h6 : oSheet r6) {r7 : Nat} (h7 : oSheet r7) {xs0 : Int32} : wG d 127 (104, [.ref 10, .int x1, .int x2, .int x3, .int x4, .int x5, .ref r6, .ref r7], [.int xs0], mkH E ro) Q = (if xs0 = 0 then wX d 136 [.ref 10, .int (-1000000001)] (mkH E ro) (fun v h' => wG d 127 (113, [.ref 10, .int x1, .int x2, .int x3, .int x4, .int x5, .ref r6, .ref r7], pv v [], h') Q) else wX d 71 [.ref (r7 + 1), .int x4, .ref (r6 + 1), .int x2, .int x5] (mkH E ro) (fun v h' => wG d 127 (132, [.ref 10, .int x1, .int x2, .int x3, .int x4, .int x5, .ref r6, .ref r7], pv v [], h') Q)) := by
  refine (r_if_ne rfl rfl rfl).trans ?_
  refine ite_congr rfl (fun h_0 => ?_) (fun h_0 => ?_)
  · refine (r_aload_n rfl rfl rfl).trans ?_
    refine (r_ldc (v := (-1000000001)) rfl rfl rfl).trans ?_
    exact r_inv (m := 136) (c := 9) rfl rfl rfl rfl rfl rfl rfl rfl
  · refine (r_aload rfl rfl rfl).trans ?_
    refine (r_getR (ci := 6) (sl := 0) s_E rfl rfl rfl h7.2.1 h7.1 h7.2.2.1 (n81 h7.2.1 (by decide))).trans ?_
    refine (r_iload rfl rfl rfl).trans ?_
    refine (r_aload rfl rfl rfl).trans ?_
    refine (r_getR (ci := 6) (sl := 0) s_E rfl rfl rfl h6.2.1 h6.1 h6.2.2.1 (n81 h6.2.1 (by decide))).trans ?_
    refine (r_iload_n rfl rfl rfl).trans ?_
    refine (r_iload rfl rfl rfl).trans ?_
    exact r_inv (m := 71) (c := 4) rfl rfl rfl rfl rfl rfl h7.2.2.2.2.1 rfl

theorem sg_X9_move_113 {d : Nat} {E : pEv} {ro : Nat → Nat → Int32} {Q : Option Value → pH → Prop} (s_E : oE E) {x1 : Int32} {x2 : Int32} {x3 : Int32} {x4 : Int32} {x5 : Int32} {r6 : Nat} (h6 : oSheet r6) {r7 : Nat} (h7 : oSheet r7) {xs0 : Int32} : wG d 127 (113, [.ref 10, .int x1, .int x2, .int x3, .int x4, .int x5, .ref r6, .ref r7], [.int xs0], mkH E ro) Q = Q (some (.int xs0)) (mkH E ro) := by
  exact r_iret rfl rfl

theorem sg_X9_move_132 {d : Nat} {E : pEv} {ro : Nat → Nat → Int32} {Q : Option Value → pH → Prop} (s_E : oE E) {x1 : Int32} {x2 : Int32} {x3 : Int32} {x4 : Int32} {x5 : Int32} {r6 : Nat} (h6 : oSheet r6) {r7 : Nat} (h7 : oSheet r7) : wG d 127 (132, [.ref 10, .int x1, .int x2, .int x3, .int x4, .int x5, .ref r6, .ref r7], [], mkH E ro) Q = Q (some (.int x5)) (mkH E ro) := by
  refine (r_iload rfl rfl rfl).trans ?_
  exact r_iret rfl rfl

theorem en_X9_order {d : Nat} {E : pEv} {ro : Nat → Nat → Int32} {Q : Option Value → pH → Prop} (s_E : oE E) {x1 : Int32} : wX (d + 1) 128 [.ref 10, .int x1] (mkH E ro) Q = wX d 144 [.ref 10, .int x1] (mkH E ro) (fun v h' => wG d 128 (5, [.ref 10, .int x1, .retAddr 0], pv v [], h') Q) := by
  refine (wX_in rfl (by decide)).trans ?_
  show wG d 128 (0, [.ref 10, .int x1, .retAddr 0], [], mkH E ro) Q = _
  refine (r_aload_n rfl rfl rfl).trans ?_
  refine (r_iload_n rfl rfl rfl).trans ?_
  exact r_inv (m := 144) (c := 9) rfl rfl rfl rfl rfl rfl rfl rfl

theorem sg_X9_order_5 {d : Nat} {E : pEv} {ro : Nat → Nat → Int32} {Q : Option Value → pH → Prop} (s_E : oE E) {x1 : Int32} {v2 : Value} {xs0 : Int32} : wG d 128 (5, [.ref 10, .int x1, v2], [.int xs0], mkH E ro) Q = (if xs0 = 0 then wX d 143 [.ref 10, .int x1] (mkH E ro) (fun v h' => wG d 128 (25, [.ref 10, .int x1, .int xs0], pv v [.ref 11], h') Q) else wX d 136 [.ref 10, .int xs0] (mkH E ro) (fun v h' => wG d 128 (15, [.ref 10, .int x1, .int xs0], pv v [], h') Q)) := by
  refine (r_istore_n rfl rfl rfl rfl).trans ?_
  refine (r_iload_n rfl rfl rfl).trans ?_
  refine (r_if_eq rfl rfl rfl).trans ?_
  refine ite_congr rfl (fun h_0 => ?_) (fun h_0 => ?_)
  · refine (r_aload_n rfl rfl rfl).trans ?_
    refine (r_getR (ci := 9) (sl := 0) s_E rfl rfl rfl rfl (by decide) rfl rfl).trans ?_
    refine (r_aload_n rfl rfl rfl).trans ?_
    refine (r_iload_n rfl rfl rfl).trans ?_
    exact r_inv (m := 143) (c := 9) rfl rfl rfl rfl rfl rfl rfl rfl
  · refine (r_aload_n rfl rfl rfl).trans ?_
    refine (r_iload_n rfl rfl rfl).trans ?_
    exact r_inv (m := 136) (c := 9) rfl rfl rfl rfl rfl rfl rfl rfl

theorem sg_X9_order_15 {d : Nat} {E : pEv} {ro : Nat → Nat → Int32} {Q : Option Value → pH → Prop} (s_E : oE E) {x1 : Int32} {x2 : Int32} {xs0 : Int32} : wG d 128 (15, [.ref 10, .int x1, .int x2], [.int xs0], mkH E ro) Q = Q (some (.int xs0)) (mkH E ro) := by
  exact r_iret rfl rfl

theorem sg_X9_order_25 {d : Nat} {E : pEv} {ro : Nat → Nat → Int32} {Q : Option Value → pH → Prop} (s_E : oE E) {x1 : Int32} {x2 : Int32} {rs1 : Nat} (hs1 : oSheet rs1) : wG d 128 (25, [.ref 10, .int x1, .int x2], [.ref rs1, .ref 11], mkH E ro) Q = wX d 40 [.ref 11, .ref (rs1 + 1)] (mkH E ro) (fun v h' => wG d 128 (31, [.ref 10, .int x1, .int x2], pv v [], h') Q) := by
  refine (r_getR (ci := 6) (sl := 0) s_E rfl rfl rfl hs1.2.1 hs1.1 hs1.2.2.1 (n81 hs1.2.1 (by decide))).trans ?_
  exact r_inv (m := 40) (c := 2) rfl rfl rfl rfl rfl rfl rfl rfl

theorem sg_X9_order_31 {d : Nat} {E : pEv} {ro : Nat → Nat → Int32} {Q : Option Value → pH → Prop} (s_E : oE E) {x1 : Int32} {x2 : Int32} {xs0 : Int32} : wG d 128 (31, [.ref 10, .int x1, .int x2], [.int xs0], mkH E ro) Q = (if xs0 = 0 then wX d 136 [.ref 10, .int (-1000000003)] (mkH E ro) (fun v h' => wG d 128 (41, [.ref 10, .int x1, .int x2], pv v [], h') Q) else wX d 143 [.ref 10, .int x1] (mkH E ro) (fun v h' => wG d 128 (54, [.ref 10, .int x1, .int x2], pv v [.ref 32], h') Q)) := by
  refine (r_if_ne rfl rfl rfl).trans ?_
  refine ite_congr rfl (fun h_0 => ?_) (fun h_0 => ?_)
  · refine (r_aload_n rfl rfl rfl).trans ?_
    refine (r_ldc_w (v := (-1000000003)) rfl rfl rfl).trans ?_
    exact r_inv (m := 136) (c := 9) rfl rfl rfl rfl rfl rfl rfl rfl
  · refine (r_aload_n rfl rfl rfl).trans ?_
    refine (r_getR (ci := 9) (sl := 0) s_E rfl rfl rfl rfl (by decide) rfl rfl).trans ?_
    refine (r_getR (ci := 2) (sl := 4) s_E rfl rfl rfl rfl (by decide) rfl rfl).trans ?_
    refine (r_aload_n rfl rfl rfl).trans ?_
    refine (r_iload_n rfl rfl rfl).trans ?_
    exact r_inv (m := 143) (c := 9) rfl rfl rfl rfl rfl rfl rfl rfl

theorem sg_X9_order_41 {d : Nat} {E : pEv} {ro : Nat → Nat → Int32} {Q : Option Value → pH → Prop} (s_E : oE E) {x1 : Int32} {x2 : Int32} {xs0 : Int32} : wG d 128 (41, [.ref 10, .int x1, .int x2], [.int xs0], mkH E ro) Q = Q (some (.int xs0)) (mkH E ro) := by
  exact r_iret rfl rfl

theorem sg_X9_order_54 {d : Nat} {E : pEv} {ro : Nat → Nat → Int32} {Q : Option Value → pH → Prop} (s_E : oE E) {x1 : Int32} {x2 : Int32} {rs1 : Nat} (hs1 : oSheet rs1) : wG d 128 (54, [.ref 10, .int x1, .int x2], [.ref rs1, .ref 32], mkH E ro) Q = wX d 69 [.ref 32, .ref (rs1 + 1)] (mkH E ro) (fun v h' => wG d 128 (60, [.ref 10, .int x1, .int x2], pv v [], h') Q) := by
  refine (r_getR (ci := 6) (sl := 0) s_E rfl rfl rfl hs1.2.1 hs1.1 hs1.2.2.1 (n81 hs1.2.1 (by decide))).trans ?_
  exact r_inv (m := 69) (c := 4) rfl rfl rfl rfl rfl rfl rfl rfl

theorem sg_X9_order_60 {d : Nat} {E : pEv} {ro : Nat → Nat → Int32} {Q : Option Value → pH → Prop} (s_E : oE E) {x1 : Int32} {x2 : Int32} : wG d 128 (60, [.ref 10, .int x1, .int x2], [], mkH E ro) Q = Q (some (.int (ro 11 7))) (mkH E ro) := by
  refine (r_aload_n rfl rfl rfl).trans ?_
  refine (r_getR (ci := 9) (sl := 0) s_E rfl rfl rfl rfl (by decide) rfl rfl).trans ?_
  refine (r_getI (ci := 2) (sl := 7) rfl rfl rfl rfl (by decide)).trans ?_
  exact r_iret rfl rfl

theorem en_X9_judge {d : Nat} {E : pEv} {ro : Nat → Nat → Int32} {Q : Option Value → pH → Prop} (s_E : oE E) {x1 : Int32} : wX (d + 1) 129 [.ref 10, .int x1] (mkH E ro) Q = wX d 144 [.ref 10, .int x1] (mkH E ro) (fun v h' => wG d 129 (5, [.ref 10, .int x1, .retAddr 0, .retAddr 0, .retAddr 0, .retAddr 0, .retAddr 0], pv v [], h') Q) := by
  refine (wX_in rfl (by decide)).trans ?_
  show wG d 129 (0, [.ref 10, .int x1, .retAddr 0, .retAddr 0, .retAddr 0, .retAddr 0, .retAddr 0], [], mkH E ro) Q = _
  refine (r_aload_n rfl rfl rfl).trans ?_
  refine (r_iload_n rfl rfl rfl).trans ?_
  exact r_inv (m := 144) (c := 9) rfl rfl rfl rfl rfl rfl rfl rfl

theorem sg_X9_judge_5 {d : Nat} {E : pEv} {ro : Nat → Nat → Int32} {Q : Option Value → pH → Prop} (s_E : oE E) {x1 : Int32} {v2 : Value} {v3 : Value} {v4 : Value} {v5 : Value} {v6 : Value} {xs0 : Int32} : wG d 129 (5, [.ref 10, .int x1, v2, v3, v4, v5, v6], [.int xs0], mkH E ro) Q = (if xs0 = 0 then wX d 143 [.ref 10, .int x1] (mkH E ro) (fun v h' => wG d 129 (21, [.ref 10, .int x1, .int xs0, v3, v4, v5, v6], pv v [], h') Q) else wX d 136 [.ref 10, .int xs0] (mkH E ro) (fun v h' => wG d 129 (15, [.ref 10, .int x1, .int xs0, v3, v4, v5, v6], pv v [], h') Q)) := by
  refine (r_istore_n rfl rfl rfl rfl).trans ?_
  refine (r_iload_n rfl rfl rfl).trans ?_
  refine (r_if_eq rfl rfl rfl).trans ?_
  refine ite_congr rfl (fun h_0 => ?_) (fun h_0 => ?_)
  · refine (r_aload_n rfl rfl rfl).trans ?_
    refine (r_iload_n rfl rfl rfl).trans ?_
    exact r_inv (m := 143) (c := 9) rfl rfl rfl rfl rfl rfl rfl rfl
  · refine (r_aload_n rfl rfl rfl).trans ?_
    refine (r_iload_n rfl rfl rfl).trans ?_
    exact r_inv (m := 136) (c := 9) rfl rfl rfl rfl rfl rfl rfl rfl

theorem sg_X9_judge_15 {d : Nat} {E : pEv} {ro : Nat → Nat → Int32} {Q : Option Value → pH → Prop} (s_E : oE E) {x1 : Int32} {x2 : Int32} {v3 : Value} {v4 : Value} {v5 : Value} {v6 : Value} {xs0 : Int32} : wG d 129 (15, [.ref 10, .int x1, .int x2, v3, v4, v5, v6], [.int xs0], mkH E ro) Q = Q (some (.int xs0)) (mkH E ro) := by
  exact r_iret rfl rfl

theorem sg_X9_judge_21 {d : Nat} {E : pEv} {ro : Nat → Nat → Int32} {Q : Option Value → pH → Prop} (s_E : oE E) {x1 : Int32} {x2 : Int32} {v3 : Value} {v4 : Value} {v5 : Value} {v6 : Value} {rs0 : Nat} (hs0 : oSheet rs0) : wG d 129 (21, [.ref 10, .int x1, .int x2, v3, v4, v5, v6], [.ref rs0], mkH E ro) Q = wX d 26 [.ref 11] (mkH E ro) (fun v h' => wG d 129 (32, [.ref 10, .int x1, .int x2, .ref (rs0 + 1), v4, v5, v6], pv v [], h') Q) := by
  refine (r_getR (ci := 6) (sl := 0) s_E rfl rfl rfl hs0.2.1 hs0.1 hs0.2.2.1 (n81 hs0.2.1 (by decide))).trans ?_
  refine (r_astore_n rfl rfl rfl rfl).trans ?_
  refine (r_aload_n rfl rfl rfl).trans ?_
  refine (r_getR (ci := 9) (sl := 0) s_E rfl rfl rfl rfl (by decide) rfl rfl).trans ?_
  exact r_inv (m := 26) (c := 2) rfl rfl rfl rfl rfl rfl rfl rfl

theorem sg_X9_judge_32 {d : Nat} {E : pEv} {ro : Nat → Nat → Int32} {Q : Option Value → pH → Prop} (s_E : oE E) {x1 : Int32} {x2 : Int32} {r3 c_h3 : Nat} (h3 : oRow r3 c_h3) {v4 : Value} {v5 : Value} {v6 : Value} {xs0 : Int32} : wG d 129 (32, [.ref 10, .int x1, .int x2, .ref r3, v4, v5, v6], [.int xs0], mkH E ro) Q = wG d 129 (53, [.ref 10, .int x1, .int x2, .ref r3, .int xs0, .int (if (ro 11 7) < (ro r3 1) then (ro 11 7) else (ro r3 1)), .int 0], [], mkH E ro) Q := by
  refine (r_istore rfl rfl rfl rfl).trans ?_
  refine (r_aload_n rfl rfl rfl).trans ?_
  refine (r_getI (ci := 4) (sl := 1) rfl rfl rfl h3.2.1 h3.1).trans ?_
  refine (r_aload_n rfl rfl rfl).trans ?_
  refine (r_getR (ci := 9) (sl := 0) s_E rfl rfl rfl rfl (by decide) rfl rfl).trans ?_
  refine (r_getI (ci := 2) (sl := 7) rfl rfl rfl rfl (by decide)).trans ?_
  refine (r_min rfl rfl rfl).trans ?_
  refine (r_istore rfl rfl rfl rfl).trans ?_
  refine (r_iconst (v := 0) rfl rfl rfl).trans ?_
  refine (r_istore rfl rfl rfl rfl).trans ?_
  exact rfl

theorem sg_X9_judge_53 {d : Nat} {E : pEv} {ro : Nat → Nat → Int32} {Q : Option Value → pH → Prop} (s_E : oE E) {x1 : Int32} {x2 : Int32} {r3 c_h3 : Nat} (h3 : oRow r3 c_h3) {x4 : Int32} {x5 : Int32} {x6 : Int32} : wG d 129 (53, [.ref 10, .int x1, .int x2, .ref r3, .int x4, .int x5, .int x6], [], mkH E ro) Q = (if x6 < x5 then wX d 57 [.ref r3, .int x6] (mkH E ro) (fun v h' => wG d 129 (66, [.ref 10, .int x1, .int x2, .ref r3, .int x4, .int x5, .int x6], pv v [], h') Q) else (if (ro r3 1) = (ro 11 7) then Q (some (.int (-1))) (mkH E ro) else Q (some (.int x5)) (mkH E ro))) := by
  refine (r_iload rfl rfl rfl).trans ?_
  refine (r_iload rfl rfl rfl).trans ?_
  refine (r_icmp_ge rfl rfl rfl).trans ?_
  refine ite_congr rfl (fun h_0 => ?_) (fun h_0 => ?_)
  · refine (r_aload_n rfl rfl rfl).trans ?_
    refine (r_iload rfl rfl rfl).trans ?_
    exact r_inv (m := 57) (c := 4) rfl rfl rfl rfl rfl rfl h3.2.1 rfl
  · refine (r_aload_n rfl rfl rfl).trans ?_
    refine (r_getI (ci := 4) (sl := 1) rfl rfl rfl h3.2.1 h3.1).trans ?_
    refine (r_aload_n rfl rfl rfl).trans ?_
    refine (r_getR (ci := 9) (sl := 0) s_E rfl rfl rfl rfl (by decide) rfl rfl).trans ?_
    refine (r_getI (ci := 2) (sl := 7) rfl rfl rfl rfl (by decide)).trans ?_
    refine (r_icmp_ne rfl rfl rfl).trans ?_
    refine ite_congr rfl (fun h_1 => ?_) (fun h_1 => ?_)
    · refine (r_iconst (v := (-1)) rfl rfl rfl).trans ?_
      refine (r_goto rfl rfl).trans ?_
      exact r_iret rfl rfl
    · refine (r_iload rfl rfl rfl).trans ?_
      exact r_iret rfl rfl

theorem sg_X9_judge_66 {d : Nat} {E : pEv} {ro : Nat → Nat → Int32} {Q : Option Value → pH → Prop} (s_E : oE E) {x1 : Int32} {x2 : Int32} {r3 c_h3 : Nat} (h3 : oRow r3 c_h3) {x4 : Int32} {x5 : Int32} {x6 : Int32} {xs0 : Int32} : wG d 129 (66, [.ref 10, .int x1, .int x2, .ref r3, .int x4, .int x5, .int x6], [.int xs0], mkH E ro) Q = (if xs0 = ((x4 >>> (x6 &&& 31)) &&& 1) then wG d 129 (53, [.ref 10, .int x1, .int x2, .ref r3, .int x4, .int x5, .int (x6 + 1)], [], mkH E ro) Q else Q (some (.int x6)) (mkH E ro)) := by
  refine (r_iload rfl rfl rfl).trans ?_
  refine (r_iload rfl rfl rfl).trans ?_
  refine (r_ishr rfl rfl).trans ?_
  refine (r_iconst (v := 1) rfl rfl rfl).trans ?_
  refine (r_iand rfl rfl).trans ?_
  refine (r_icmp_eq rfl rfl rfl).trans ?_
  refine ite_congr rfl (fun h_0 => ?_) (fun h_0 => ?_)
  · refine (r_iinc (y := 1) rfl rfl rfl rfl rfl rfl).trans ?_
    refine (r_goto rfl rfl).trans ?_
    exact rfl
  · refine (r_iload rfl rfl rfl).trans ?_
    exact r_iret rfl rfl

theorem en_X9_image {d : Nat} {E : pEv} {ro : Nat → Nat → Int32} {Q : Option Value → pH → Prop} (s_E : oE E) : wX (d + 1) 130 [.ref 10] (mkH E ro) Q = wX d 44 [.ref 38, .ref 11] (mkH E ro) (fun v h' => wG d 130 (11, [.ref 10], pv v [], h') Q) := by
  refine (wX_in rfl (by decide)).trans ?_
  show wG d 130 (0, [.ref 10], [], mkH E ro) Q = _
  refine (r_aload_n rfl rfl rfl).trans ?_
  refine (r_getR (ci := 9) (sl := 1) s_E rfl rfl rfl rfl (by decide) rfl rfl).trans ?_
  refine (r_aload_n rfl rfl rfl).trans ?_
  refine (r_getR (ci := 9) (sl := 0) s_E rfl rfl rfl rfl (by decide) rfl rfl).trans ?_
  exact r_inv (m := 44) (c := 2) rfl rfl rfl rfl rfl rfl rfl rfl

theorem sg_X9_image_11 {d : Nat} {E : pEv} {ro : Nat → Nat → Int32} {Q : Option Value → pH → Prop} (s_E : oE E) : wG d 130 (11, [.ref 10], [], mkH E ro) Q = Q (some (.int ((uI ro 10 8 ((ro 10 8) + 1)) 10 8))) (mkH E (uI ro 10 8 ((ro 10 8) + 1))) := by
  refine (r_aload_n rfl rfl rfl).trans ?_
  refine (r_dupR rfl rfl).trans ?_
  refine (r_getI (ci := 9) (sl := 8) rfl rfl rfl rfl (by decide)).trans ?_
  refine (r_iconst (v := 1) rfl rfl rfl).trans ?_
  refine (r_iadd rfl rfl).trans ?_
  refine (r_putI (ci := 9) (sl := 8) rfl rfl rfl rfl (by decide)).trans ?_
  refine (r_aload_n rfl rfl rfl).trans ?_
  refine (r_getI (ci := 9) (sl := 8) rfl rfl rfl rfl (by decide)).trans ?_
  exact r_iret rfl rfl

theorem en_X9_restore {d : Nat} {E : pEv} {ro : Nat → Nat → Int32} {Q : Option Value → pH → Prop} (s_E : oE E) : wX (d + 1) 131 [.ref 10] (mkH E ro) Q = (if (ro 10 8) = 0 then wX d 136 [.ref 10, .int (-1000000002)] (mkH E ro) (fun v h' => wG d 131 (13, [.ref 10], pv v [], h') Q) else wX d 44 [.ref 11, .ref 38] (mkH E ro) (fun v h' => wG d 131 (25, [.ref 10], pv v [], h') Q)) := by
  refine (wX_in rfl (by decide)).trans ?_
  show wG d 131 (0, [.ref 10], [], mkH E ro) Q = _
  refine (r_aload_n rfl rfl rfl).trans ?_
  refine (r_getI (ci := 9) (sl := 8) rfl rfl rfl rfl (by decide)).trans ?_
  refine (r_if_ne rfl rfl rfl).trans ?_
  refine ite_congr rfl (fun h_0 => ?_) (fun h_0 => ?_)
  · refine (r_aload_n rfl rfl rfl).trans ?_
    refine (r_ldc (v := (-1000000002)) rfl rfl rfl).trans ?_
    exact r_inv (m := 136) (c := 9) rfl rfl rfl rfl rfl rfl rfl rfl
  · refine (r_aload_n rfl rfl rfl).trans ?_
    refine (r_getR (ci := 9) (sl := 0) s_E rfl rfl rfl rfl (by decide) rfl rfl).trans ?_
    refine (r_aload_n rfl rfl rfl).trans ?_
    refine (r_getR (ci := 9) (sl := 1) s_E rfl rfl rfl rfl (by decide) rfl rfl).trans ?_
    exact r_inv (m := 44) (c := 2) rfl rfl rfl rfl rfl rfl rfl rfl

theorem sg_X9_restore_13 {d : Nat} {E : pEv} {ro : Nat → Nat → Int32} {Q : Option Value → pH → Prop} (s_E : oE E) {xs0 : Int32} : wG d 131 (13, [.ref 10], [.int xs0], mkH E ro) Q = Q (some (.int xs0)) (mkH E ro) := by
  exact r_iret rfl rfl

theorem sg_X9_restore_25 {d : Nat} {E : pEv} {ro : Nat → Nat → Int32} {Q : Option Value → pH → Prop} (s_E : oE E) : wG d 131 (25, [.ref 10], [], mkH E ro) Q = Q (some (.int (ro 11 10))) (mkH E ro) := by
  refine (r_aload_n rfl rfl rfl).trans ?_
  refine (r_getR (ci := 9) (sl := 0) s_E rfl rfl rfl rfl (by decide) rfl rfl).trans ?_
  refine (r_getI (ci := 2) (sl := 10) rfl rfl rfl rfl (by decide)).trans ?_
  exact r_iret rfl rfl

theorem en_X9_tell {d : Nat} {E : pEv} {ro : Nat → Nat → Int32} {Q : Option Value → pH → Prop} (s_E : oE E) {x1 : Int32} : wX (d + 1) 132 [.ref 10, .int x1] (mkH E ro) Q = (if (ro 36 1) < 20 then wX d 59 [.ref 36, .int x1] (mkH E ro) (fun v h' => wG d 132 (33, [.ref 10, .int x1], pv v [], h') Q) else wX d 136 [.ref 10, .int (-1000000004)] (mkH E ro) (fun v h' => wG d 132 (21, [.ref 10, .int x1], pv v [], h') Q)) := by
  refine (wX_in rfl (by decide)).trans ?_
  show wG d 132 (0, [.ref 10, .int x1], [], mkH E ro) Q = _
  refine (r_aload_n rfl rfl rfl).trans ?_
  refine (r_getR (ci := 9) (sl := 0) s_E rfl rfl rfl rfl (by decide) rfl rfl).trans ?_
  refine (r_getR (ci := 2) (sl := 6) s_E rfl rfl rfl rfl (by decide) rfl rfl).trans ?_
  refine (r_getI (ci := 4) (sl := 1) rfl rfl rfl rfl (by decide)).trans ?_
  refine (r_bipush (v := 20) rfl rfl rfl).trans ?_
  refine (r_icmp_lt rfl rfl rfl).trans ?_
  refine ite_congr rfl (fun h_0 => ?_) (fun h_0 => ?_)
  · refine (r_aload_n rfl rfl rfl).trans ?_
    refine (r_getR (ci := 9) (sl := 0) s_E rfl rfl rfl rfl (by decide) rfl rfl).trans ?_
    refine (r_getR (ci := 2) (sl := 6) s_E rfl rfl rfl rfl (by decide) rfl rfl).trans ?_
    refine (r_iload_n rfl rfl rfl).trans ?_
    exact r_inv (m := 59) (c := 4) rfl rfl rfl rfl rfl rfl rfl rfl
  · refine (r_aload_n rfl rfl rfl).trans ?_
    refine (r_ldc (v := (-1000000004)) rfl rfl rfl).trans ?_
    exact r_inv (m := 136) (c := 9) rfl rfl rfl rfl rfl rfl rfl rfl

theorem sg_X9_tell_21 {d : Nat} {E : pEv} {ro : Nat → Nat → Int32} {Q : Option Value → pH → Prop} (s_E : oE E) {x1 : Int32} {xs0 : Int32} : wG d 132 (21, [.ref 10, .int x1], [.int xs0], mkH E ro) Q = Q (some (.int xs0)) (mkH E ro) := by
  exact r_iret rfl rfl

theorem sg_X9_tell_33 {d : Nat} {E : pEv} {ro : Nat → Nat → Int32} {Q : Option Value → pH → Prop} (s_E : oE E) {x1 : Int32} : wG d 132 (33, [.ref 10, .int x1], [], mkH E ro) Q = Q (some (.int (ro 36 1))) (mkH E ro) := by
  refine (r_aload_n rfl rfl rfl).trans ?_
  refine (r_getR (ci := 9) (sl := 0) s_E rfl rfl rfl rfl (by decide) rfl rfl).trans ?_
  refine (r_getR (ci := 2) (sl := 6) s_E rfl rfl rfl rfl (by decide) rfl rfl).trans ?_
  refine (r_getI (ci := 4) (sl := 1) rfl rfl rfl rfl (by decide)).trans ?_
  exact r_iret rfl rfl

theorem en_X9_check {d : Nat} {E : pEv} {ro : Nat → Nat → Int32} {Q : Option Value → pH → Prop} (s_E : oE E) : wX (d + 1) 133 [.ref 10] (mkH E ro) Q = wX d 35 [.ref 11] (mkH E ro) (fun v h' => wG d 133 (7, [.ref 10, .retAddr 0], pv v [], h') Q) := by
  refine (wX_in rfl (by decide)).trans ?_
  show wG d 133 (0, [.ref 10, .retAddr 0], [], mkH E ro) Q = _
  refine (r_aload_n rfl rfl rfl).trans ?_
  refine (r_getR (ci := 9) (sl := 0) s_E rfl rfl rfl rfl (by decide) rfl rfl).trans ?_
  exact r_inv (m := 35) (c := 2) rfl rfl rfl rfl rfl rfl rfl rfl

theorem sg_X9_check_7 {d : Nat} {E : pEv} {ro : Nat → Nat → Int32} {Q : Option Value → pH → Prop} (s_E : oE E) {v1 : Value} {xs0 : Int32} : wG d 133 (7, [.ref 10, v1], [.int xs0], mkH E ro) Q = wX d 66 [.ref 36] (mkH E ro) (fun v h' => wG d 133 (18, [.ref 10, .int xs0], pv v [], h') Q) := by
  refine (r_istore_n rfl rfl rfl rfl).trans ?_
  refine (r_aload_n rfl rfl rfl).trans ?_
  refine (r_getR (ci := 9) (sl := 0) s_E rfl rfl rfl rfl (by decide) rfl rfl).trans ?_
  refine (r_getR (ci := 2) (sl := 6) s_E rfl rfl rfl rfl (by decide) rfl rfl).trans ?_
  exact r_inv (m := 66) (c := 4) rfl rfl rfl rfl rfl rfl rfl rfl

theorem sg_X9_check_18 {d : Nat} {E : pEv} {ro : Nat → Nat → Int32} {Q : Option Value → pH → Prop} (s_E : oE E) {x1 : Int32} : wG d 133 (18, [.ref 10, .int x1], [], mkH E ro) Q = Q (some (.int (x1 + 1))) (mkH E ro) := by
  refine (r_iload_n rfl rfl rfl).trans ?_
  refine (r_iconst (v := 1) rfl rfl rfl).trans ?_
  refine (r_iadd rfl rfl).trans ?_
  exact r_iret rfl rfl

theorem en_X9_count {d : Nat} {E : pEv} {ro : Nat → Nat → Int32} {Q : Option Value → pH → Prop} (s_E : oE E) {x1 : Int32} : wX (d + 1) 134 [.ref 10, .int x1] (mkH E ro) Q = (if x1 = 0 then Q (some (.int (ro 11 7))) (mkH E ro) else (if x1 = 1 then wX d 34 [.ref 11] (mkH E ro) (fun v h' => wG d 134 (79, [.ref 10, .int x1], pv v [], h') Q) else (if x1 = 2 then wX d 37 [.ref 11] (mkH E ro) (fun v h' => wG d 134 (87, [.ref 10, .int x1], pv v [], h') Q) else (if x1 = 3 then wX d 38 [.ref 11] (mkH E ro) (fun v h' => wG d 134 (95, [.ref 10, .int x1], pv v [], h') Q) else (if x1 = 4 then Q (some (.int (ro 11 8))) (mkH E ro) else (if x1 = 5 then Q (some (.int (ro 11 9))) (mkH E ro) else (if x1 = 6 then Q (some (.int (ro 11 10))) (mkH E ro) else (if x1 = 7 then wX d 39 [.ref 11] (mkH E ro) (fun v h' => wG d 134 (127, [.ref 10, .int x1], pv v [], h') Q) else (if x1 = 8 then Q (some (.int (ro 34 1))) (mkH E ro) else (if x1 = 9 then Q (some (.int (ro 36 1))) (mkH E ro) else (if x1 = 10 then Q (some (.int (ro 85 1))) (mkH E ro) else (if x1 = 11 then Q (some (.int (ro 11 11))) (mkH E ro) else wX d 136 [.ref 10, .int (-1000000001)] (mkH E ro) (fun v h' => wG d 134 (175, [.ref 10, .int x1], pv v [], h') Q))))))))))))) := by
  refine (wX_in rfl (by decide)).trans ?_
  show wG d 134 (0, [.ref 10, .int x1], [], mkH E ro) Q = _
  refine (r_iload_n rfl rfl rfl).trans ?_
  refine (r_sw (i := (168, 0, 11)) rfl rfl).trans ?_
  refine (r_swc (y := 0) rfl).trans ?_
  refine ite_congr rfl (fun h_0 => ?_) (fun h_0 => ?_)
  · refine (r_aload_n rfl rfl rfl).trans ?_
    refine (r_getR (ci := 9) (sl := 0) s_E rfl rfl rfl rfl (by decide) rfl rfl).trans ?_
    refine (r_getI (ci := 2) (sl := 7) rfl rfl rfl rfl (by decide)).trans ?_
    exact r_iret rfl rfl
  · refine (r_swc (y := 1) rfl).trans ?_
    refine ite_congr rfl (fun h_1 => ?_) (fun h_1 => ?_)
    · refine (r_aload_n rfl rfl rfl).trans ?_
      refine (r_getR (ci := 9) (sl := 0) s_E rfl rfl rfl rfl (by decide) rfl rfl).trans ?_
      exact r_inv (m := 34) (c := 2) rfl rfl rfl rfl rfl rfl rfl rfl
    · refine (r_swc (y := 2) rfl).trans ?_
      refine ite_congr rfl (fun h_2 => ?_) (fun h_2 => ?_)
      · refine (r_aload_n rfl rfl rfl).trans ?_
        refine (r_getR (ci := 9) (sl := 0) s_E rfl rfl rfl rfl (by decide) rfl rfl).trans ?_
        exact r_inv (m := 37) (c := 2) rfl rfl rfl rfl rfl rfl rfl rfl
      · refine (r_swc (y := 3) rfl).trans ?_
        refine ite_congr rfl (fun h_3 => ?_) (fun h_3 => ?_)
        · refine (r_aload_n rfl rfl rfl).trans ?_
          refine (r_getR (ci := 9) (sl := 0) s_E rfl rfl rfl rfl (by decide) rfl rfl).trans ?_
          exact r_inv (m := 38) (c := 2) rfl rfl rfl rfl rfl rfl rfl rfl
        · refine (r_swc (y := 4) rfl).trans ?_
          refine ite_congr rfl (fun h_4 => ?_) (fun h_4 => ?_)
          · refine (r_aload_n rfl rfl rfl).trans ?_
            refine (r_getR (ci := 9) (sl := 0) s_E rfl rfl rfl rfl (by decide) rfl rfl).trans ?_
            refine (r_getI (ci := 2) (sl := 8) rfl rfl rfl rfl (by decide)).trans ?_
            exact r_iret rfl rfl
          · refine (r_swc (y := 5) rfl).trans ?_
            refine ite_congr rfl (fun h_5 => ?_) (fun h_5 => ?_)
            · refine (r_aload_n rfl rfl rfl).trans ?_
              refine (r_getR (ci := 9) (sl := 0) s_E rfl rfl rfl rfl (by decide) rfl rfl).trans ?_
              refine (r_getI (ci := 2) (sl := 9) rfl rfl rfl rfl (by decide)).trans ?_
              exact r_iret rfl rfl
            · refine (r_swc (y := 6) rfl).trans ?_
              refine ite_congr rfl (fun h_6 => ?_) (fun h_6 => ?_)
              · refine (r_aload_n rfl rfl rfl).trans ?_
                refine (r_getR (ci := 9) (sl := 0) s_E rfl rfl rfl rfl (by decide) rfl rfl).trans ?_
                refine (r_getI (ci := 2) (sl := 10) rfl rfl rfl rfl (by decide)).trans ?_
                exact r_iret rfl rfl
              · refine (r_swc (y := 7) rfl).trans ?_
                refine ite_congr rfl (fun h_7 => ?_) (fun h_7 => ?_)
                · refine (r_aload_n rfl rfl rfl).trans ?_
                  refine (r_getR (ci := 9) (sl := 0) s_E rfl rfl rfl rfl (by decide) rfl rfl).trans ?_
                  exact r_inv (m := 39) (c := 2) rfl rfl rfl rfl rfl rfl rfl rfl
                · refine (r_swc (y := 8) rfl).trans ?_
                  refine ite_congr rfl (fun h_8 => ?_) (fun h_8 => ?_)
                  · refine (r_aload_n rfl rfl rfl).trans ?_
                    refine (r_getR (ci := 9) (sl := 0) s_E rfl rfl rfl rfl (by decide) rfl rfl).trans ?_
                    refine (r_getR (ci := 2) (sl := 5) s_E rfl rfl rfl rfl (by decide) rfl rfl).trans ?_
                    refine (r_getI (ci := 4) (sl := 1) rfl rfl rfl rfl (by decide)).trans ?_
                    exact r_iret rfl rfl
                  · refine (r_swc (y := 9) rfl).trans ?_
                    refine ite_congr rfl (fun h_9 => ?_) (fun h_9 => ?_)
                    · refine (r_aload_n rfl rfl rfl).trans ?_
                      refine (r_getR (ci := 9) (sl := 0) s_E rfl rfl rfl rfl (by decide) rfl rfl).trans ?_
                      refine (r_getR (ci := 2) (sl := 6) s_E rfl rfl rfl rfl (by decide) rfl rfl).trans ?_
                      refine (r_getI (ci := 4) (sl := 1) rfl rfl rfl rfl (by decide)).trans ?_
                      exact r_iret rfl rfl
                    · refine (r_swc (y := 10) rfl).trans ?_
                      refine ite_congr rfl (fun h_10 => ?_) (fun h_10 => ?_)
                      · refine (r_aload_n rfl rfl rfl).trans ?_
                        refine (r_getR (ci := 9) (sl := 5) s_E rfl rfl rfl rfl (by decide) rfl rfl).trans ?_
                        refine (r_getR (ci := 7) (sl := 0) s_E rfl rfl rfl rfl (by decide) rfl rfl).trans ?_
                        refine (r_getI (ci := 4) (sl := 1) rfl rfl rfl rfl (by decide)).trans ?_
                        exact r_iret rfl rfl
                      · refine (r_swc (y := 11) rfl).trans ?_
                        refine ite_congr rfl (fun h_11 => ?_) (fun h_11 => ?_)
                        · refine (r_aload_n rfl rfl rfl).trans ?_
                          refine (r_getR (ci := 9) (sl := 0) s_E rfl rfl rfl rfl (by decide) rfl rfl).trans ?_
                          refine (r_getI (ci := 2) (sl := 11) rfl rfl rfl rfl (by decide)).trans ?_
                          exact r_iret rfl rfl
                        · refine r_swn.trans ?_
                          refine (r_aload_n rfl rfl rfl).trans ?_
                          refine (r_ldc (v := (-1000000001)) rfl rfl rfl).trans ?_
                          exact r_inv (m := 136) (c := 9) rfl rfl rfl rfl rfl rfl rfl rfl

theorem sg_X9_count_79 {d : Nat} {E : pEv} {ro : Nat → Nat → Int32} {Q : Option Value → pH → Prop} (s_E : oE E) {x1 : Int32} {xs0 : Int32} : wG d 134 (79, [.ref 10, .int x1], [.int xs0], mkH E ro) Q = Q (some (.int xs0)) (mkH E ro) := by
  exact r_iret rfl rfl

theorem sg_X9_count_87 {d : Nat} {E : pEv} {ro : Nat → Nat → Int32} {Q : Option Value → pH → Prop} (s_E : oE E) {x1 : Int32} {xs0 : Int32} : wG d 134 (87, [.ref 10, .int x1], [.int xs0], mkH E ro) Q = Q (some (.int xs0)) (mkH E ro) := by
  exact r_iret rfl rfl

theorem sg_X9_count_95 {d : Nat} {E : pEv} {ro : Nat → Nat → Int32} {Q : Option Value → pH → Prop} (s_E : oE E) {x1 : Int32} {xs0 : Int32} : wG d 134 (95, [.ref 10, .int x1], [.int xs0], mkH E ro) Q = Q (some (.int xs0)) (mkH E ro) := by
  exact r_iret rfl rfl

theorem sg_X9_count_127 {d : Nat} {E : pEv} {ro : Nat → Nat → Int32} {Q : Option Value → pH → Prop} (s_E : oE E) {x1 : Int32} {xs0 : Int32} : wG d 134 (127, [.ref 10, .int x1], [.int xs0], mkH E ro) Q = Q (some (.int xs0)) (mkH E ro) := by
  exact r_iret rfl rfl

theorem sg_X9_count_175 {d : Nat} {E : pEv} {ro : Nat → Nat → Int32} {Q : Option Value → pH → Prop} (s_E : oE E) {x1 : Int32} {xs0 : Int32} : wG d 134 (175, [.ref 10, .int x1], [.int xs0], mkH E ro) Q = Q (some (.int xs0)) (mkH E ro) := by
  exact r_iret rfl rfl

theorem en_X9_told {d : Nat} {E : pEv} {ro : Nat → Nat → Int32} {Q : Option Value → pH → Prop} (s_E : oE E) {x1 : Int32} : wX (d + 1) 135 [.ref 10, .int x1] (mkH E ro) Q = wX d 146 [.int x1, .int 1, .int 5] (mkH E ro) (fun v h' => wG d 135 (6, [.ref 10, .int x1], pv v [], h') Q) := by
  refine (wX_in rfl (by decide)).trans ?_
  show wG d 135 (0, [.ref 10, .int x1], [], mkH E ro) Q = _
  refine (r_iload_n rfl rfl rfl).trans ?_
  refine (r_iconst (v := 1) rfl rfl rfl).trans ?_
  refine (r_iconst (v := 5) rfl rfl rfl).trans ?_
  exact r_ins (m := 146) rfl rfl rfl rfl rfl rfl

theorem sg_X9_told_6 {d : Nat} {E : pEv} {ro : Nat → Nat → Int32} {Q : Option Value → pH → Prop} (s_E : oE E) {x1 : Int32} {xs0 : Int32} (b0 : (¬ xs0 = 0) → (¬ (x1 - 1) < 0 ∧ (x1 - 1).toNatClampNeg < 5)) : wG d 135 (6, [.ref 10, .int x1], [.int xs0], mkH E ro) Q = (if xs0 = 0 then wX d 136 [.ref 10, .int (-1000000001)] (mkH E ro) (fun v h' => wG d 135 (15, [.ref 10, .int x1], pv v [], h') Q) else Q (some (.int (ro 100 (x1 - 1).toNatClampNeg))) (mkH E ro)) := by
  refine (r_if_ne rfl rfl rfl).trans ?_
  refine ite_congr rfl (fun h_0 => ?_) (fun h_0 => ?_)
  · refine (r_aload_n rfl rfl rfl).trans ?_
    refine (r_ldc (v := (-1000000001)) rfl rfl rfl).trans ?_
    exact r_inv (m := 136) (c := 9) rfl rfl rfl rfl rfl rfl rfl rfl
  · refine (r_aload_n rfl rfl rfl).trans ?_
    refine (r_getR (ci := 9) (sl := 7) s_E rfl rfl rfl rfl (by decide) rfl rfl).trans ?_
    refine (r_iload_n rfl rfl rfl).trans ?_
    refine (r_iconst (v := 1) rfl rfl rfl).trans ?_
    refine (r_isub rfl rfl).trans ?_
    refine (r_iald rfl rfl rfl (by decide) (b0 h_0)).trans ?_
    exact r_iret rfl rfl

theorem sg_X9_told_15 {d : Nat} {E : pEv} {ro : Nat → Nat → Int32} {Q : Option Value → pH → Prop} (s_E : oE E) {x1 : Int32} {xs0 : Int32} : wG d 135 (15, [.ref 10, .int x1], [.int xs0], mkH E ro) Q = Q (some (.int xs0)) (mkH E ro) := by
  exact r_iret rfl rfl

theorem en_X9_wrong {d : Nat} {E : pEv} {ro : Nat → Nat → Int32} {Q : Option Value → pH → Prop} (s_E : oE E) {x1 : Int32} : wX (d + 1) 136 [.ref 10, .int x1] (mkH E ro) Q = wX d 146 [.int ((-1000000000) - x1), .int 1, .int 5] (mkH E ro) (fun v h' => wG d 136 (12, [.ref 10, .int x1, .int ((-1000000000) - x1)], pv v [], h') Q) := by
  refine (wX_in rfl (by decide)).trans ?_
  show wG d 136 (0, [.ref 10, .int x1, .retAddr 0], [], mkH E ro) Q = _
  refine (r_ldc_w (v := (-1000000000)) rfl rfl rfl).trans ?_
  refine (r_iload_n rfl rfl rfl).trans ?_
  refine (r_isub rfl rfl).trans ?_
  refine (r_istore_n rfl rfl rfl rfl).trans ?_
  refine (r_iload_n rfl rfl rfl).trans ?_
  refine (r_iconst (v := 1) rfl rfl rfl).trans ?_
  refine (r_iconst (v := 5) rfl rfl rfl).trans ?_
  exact r_ins (m := 146) rfl rfl rfl rfl rfl rfl

theorem sg_X9_wrong_12 {d : Nat} {E : pEv} {ro : Nat → Nat → Int32} {Q : Option Value → pH → Prop} (s_E : oE E) {x1 : Int32} {x2 : Int32} {xs0 : Int32} (b0 : (¬ xs0 = 0) → (¬ (x2 - 1) < 0 ∧ (x2 - 1).toNatClampNeg < 5)) : wG d 136 (12, [.ref 10, .int x1, .int x2], [.int xs0], mkH E ro) Q = (if xs0 = 0 then Q (some (.int x1)) (mkH E ro) else Q (some (.int x1)) (mkH E (uI ro 100 (x2 - 1).toNatClampNeg ((ro 100 (x2 - 1).toNatClampNeg) + 1)))) := by
  refine (r_if_eq rfl rfl rfl).trans ?_
  refine ite_congr rfl (fun h_0 => ?_) (fun h_0 => ?_)
  · refine (r_iload_n rfl rfl rfl).trans ?_
    exact r_iret rfl rfl
  · refine (r_aload_n rfl rfl rfl).trans ?_
    refine (r_getR (ci := 9) (sl := 7) s_E rfl rfl rfl rfl (by decide) rfl rfl).trans ?_
    refine (r_iload_n rfl rfl rfl).trans ?_
    refine (r_iconst (v := 1) rfl rfl rfl).trans ?_
    refine (r_isub rfl rfl).trans ?_
    refine (r_dup2 rfl rfl).trans ?_
    refine (r_iald rfl rfl rfl (by decide) (b0 h_0)).trans ?_
    refine (r_iconst (v := 1) rfl rfl rfl).trans ?_
    refine (r_iadd rfl rfl).trans ?_
    refine (r_iast rfl rfl rfl (by decide) (b0 h_0)).trans ?_
    refine (r_iload_n rfl rfl rfl).trans ?_
    exact r_iret rfl rfl

theorem en_X9_stands {d : Nat} {E : pEv} {ro : Nat → Nat → Int32} {Q : Option Value → pH → Prop} (s_E : oE E) {x1 : Int32} : wX (d + 1) 137 [.ref 10, .int x1] (mkH E ro) Q = wX d 146 [.int x1, .int 0, .int ((ro 11 7) - 1)] (mkH E ro) (fun v h' => wG d 137 (14, [.ref 10, .int x1], pv v [], h') Q) := by
  refine (wX_in rfl (by decide)).trans ?_
  show wG d 137 (0, [.ref 10, .int x1], [], mkH E ro) Q = _
  refine (r_iload_n rfl rfl rfl).trans ?_
  refine (r_iconst (v := 0) rfl rfl rfl).trans ?_
  refine (r_aload_n rfl rfl rfl).trans ?_
  refine (r_getR (ci := 9) (sl := 0) s_E rfl rfl rfl rfl (by decide) rfl rfl).trans ?_
  refine (r_getI (ci := 2) (sl := 7) rfl rfl rfl rfl (by decide)).trans ?_
  refine (r_iconst (v := 1) rfl rfl rfl).trans ?_
  refine (r_isub rfl rfl).trans ?_
  exact r_ins (m := 146) rfl rfl rfl rfl rfl rfl

theorem sg_X9_stands_14 {d : Nat} {E : pEv} {ro : Nat → Nat → Int32} {Q : Option Value → pH → Prop} (s_E : oE E) {x1 : Int32} {xs0 : Int32} (b0 : (narrow .boolean (.int xs0) = .int xs0)) : wG d 137 (14, [.ref 10, .int x1], [.int xs0], mkH E ro) Q = Q (some (.int xs0)) (mkH E ro) := by
  exact r_zret rfl rfl b0

theorem en_X9_isPlace {d : Nat} {E : pEv} {ro : Nat → Nat → Int32} {Q : Option Value → pH → Prop} (s_E : oE E) {x1 : Int32} : wX (d + 1) 138 [.ref 10, .int x1] (mkH E ro) Q = wX d 146 [.int x1, .int 0, .int ((ro 11 7) - 1)] (mkH E ro) (fun v h' => wG d 138 (14, [.ref 10, .int x1], pv v [], h') Q) := by
  refine (wX_in rfl (by decide)).trans ?_
  show wG d 138 (0, [.ref 10, .int x1], [], mkH E ro) Q = _
  refine (r_iload_n rfl rfl rfl).trans ?_
  refine (r_iconst (v := 0) rfl rfl rfl).trans ?_
  refine (r_aload_n rfl rfl rfl).trans ?_
  refine (r_getR (ci := 9) (sl := 0) s_E rfl rfl rfl rfl (by decide) rfl rfl).trans ?_
  refine (r_getI (ci := 2) (sl := 7) rfl rfl rfl rfl (by decide)).trans ?_
  refine (r_iconst (v := 1) rfl rfl rfl).trans ?_
  refine (r_isub rfl rfl).trans ?_
  exact r_ins (m := 146) rfl rfl rfl rfl rfl rfl

theorem sg_X9_isPlace_14 {d : Nat} {E : pEv} {ro : Nat → Nat → Int32} {Q : Option Value → pH → Prop} (s_E : oE E) {x1 : Int32} {xs0 : Int32} (b0 : (narrow .boolean (.int xs0) = .int xs0)) : wG d 138 (14, [.ref 10, .int x1], [.int xs0], mkH E ro) Q = Q (some (.int xs0)) (mkH E ro) := by
  exact r_zret rfl rfl b0

theorem en_X9_isSet {d : Nat} {E : pEv} {ro : Nat → Nat → Int32} {Q : Option Value → pH → Prop} (s_E : oE E) {x1 : Int32} : wX (d + 1) 139 [.ref 10, .int x1] (mkH E ro) Q = wX d 22 [.ref 11] (mkH E ro) (fun v h' => wG d 139 (9, [.ref 10, .int x1], pv v [.int 0, .int x1], h') Q) := by
  refine (wX_in rfl (by decide)).trans ?_
  show wG d 139 (0, [.ref 10, .int x1], [], mkH E ro) Q = _
  refine (r_iload_n rfl rfl rfl).trans ?_
  refine (r_iconst (v := 0) rfl rfl rfl).trans ?_
  refine (r_aload_n rfl rfl rfl).trans ?_
  refine (r_getR (ci := 9) (sl := 0) s_E rfl rfl rfl rfl (by decide) rfl rfl).trans ?_
  exact r_inv (m := 22) (c := 2) rfl rfl rfl rfl rfl rfl rfl rfl

theorem sg_X9_isSet_9 {d : Nat} {E : pEv} {ro : Nat → Nat → Int32} {Q : Option Value → pH → Prop} (s_E : oE E) {x1 : Int32} {xs0 : Int32} {xs1 : Int32} {xs2 : Int32} : wG d 139 (9, [.ref 10, .int x1], [.int xs2, .int xs1, .int xs0], mkH E ro) Q = wX d 146 [.int xs0, .int xs1, .int xs2] (mkH E ro) (fun v h' => wG d 139 (12, [.ref 10, .int x1], pv v [], h') Q) := by
  exact r_ins (m := 146) rfl rfl rfl rfl rfl rfl

theorem sg_X9_isSet_12 {d : Nat} {E : pEv} {ro : Nat → Nat → Int32} {Q : Option Value → pH → Prop} (s_E : oE E) {x1 : Int32} {xs0 : Int32} (b0 : (narrow .boolean (.int xs0) = .int xs0)) : wG d 139 (12, [.ref 10, .int x1], [.int xs0], mkH E ro) Q = Q (some (.int xs0)) (mkH E ro) := by
  exact r_zret rfl rfl b0

theorem en_X9_isKindAndM {d : Nat} {E : pEv} {ro : Nat → Nat → Int32} {Q : Option Value → pH → Prop} (s_E : oE E) {x0 : Int32} : wX (d + 1) 140 [.int x0] (mkH E ro) Q = wX d 146 [.int x0, .int 0, .int 69] (mkH E ro) (fun v h' => wG d 140 (7, [.int x0], pv v [], h') Q) := by
  refine (wX_in rfl (by decide)).trans ?_
  show wG d 140 (0, [.int x0], [], mkH E ro) Q = _
  refine (r_iload_n rfl rfl rfl).trans ?_
  refine (r_iconst (v := 0) rfl rfl rfl).trans ?_
  refine (r_bipush (v := 69) rfl rfl rfl).trans ?_
  exact r_ins (m := 146) rfl rfl rfl rfl rfl rfl

theorem sg_X9_isKindAndM_7 {d : Nat} {E : pEv} {ro : Nat → Nat → Int32} {Q : Option Value → pH → Prop} (s_E : oE E) {x0 : Int32} {xs0 : Int32} (b0 : (narrow .boolean (.int xs0) = .int xs0)) : wG d 140 (7, [.int x0], [.int xs0], mkH E ro) Q = Q (some (.int xs0)) (mkH E ro) := by
  exact r_zret rfl rfl b0

theorem en_X9_isUse {d : Nat} {E : pEv} {ro : Nat → Nat → Int32} {Q : Option Value → pH → Prop} (s_E : oE E) {x0 : Int32} : wX (d + 1) 141 [.int x0] (mkH E ro) Q = wX d 146 [.int x0, .int 0, .int 1] (mkH E ro) (fun v h' => wG d 141 (6, [.int x0], pv v [], h') Q) := by
  refine (wX_in rfl (by decide)).trans ?_
  show wG d 141 (0, [.int x0], [], mkH E ro) Q = _
  refine (r_iload_n rfl rfl rfl).trans ?_
  refine (r_iconst (v := 0) rfl rfl rfl).trans ?_
  refine (r_iconst (v := 1) rfl rfl rfl).trans ?_
  exact r_ins (m := 146) rfl rfl rfl rfl rfl rfl

theorem sg_X9_isUse_6 {d : Nat} {E : pEv} {ro : Nat → Nat → Int32} {Q : Option Value → pH → Prop} (s_E : oE E) {x0 : Int32} {xs0 : Int32} (b0 : (narrow .boolean (.int xs0) = .int xs0)) : wG d 141 (6, [.int x0], [.int xs0], mkH E ro) Q = Q (some (.int xs0)) (mkH E ro) := by
  exact r_zret rfl rfl b0

theorem en_X9_isSheet {d : Nat} {E : pEv} {ro : Nat → Nat → Int32} {Q : Option Value → pH → Prop} (s_E : oE E) {x0 : Int32} : wX (d + 1) 142 [.int x0] (mkH E ro) Q = wX d 146 [.int x0, .int 0, .int 3] (mkH E ro) (fun v h' => wG d 142 (6, [.int x0], pv v [], h') Q) := by
  refine (wX_in rfl (by decide)).trans ?_
  show wG d 142 (0, [.int x0], [], mkH E ro) Q = _
  refine (r_iload_n rfl rfl rfl).trans ?_
  refine (r_iconst (v := 0) rfl rfl rfl).trans ?_
  refine (r_iconst (v := 3) rfl rfl rfl).trans ?_
  exact r_ins (m := 146) rfl rfl rfl rfl rfl rfl

theorem sg_X9_isSheet_6 {d : Nat} {E : pEv} {ro : Nat → Nat → Int32} {Q : Option Value → pH → Prop} (s_E : oE E) {x0 : Int32} {xs0 : Int32} (b0 : (narrow .boolean (.int xs0) = .int xs0)) : wG d 142 (6, [.int x0], [.int xs0], mkH E ro) Q = Q (some (.int xs0)) (mkH E ro) := by
  exact r_zret rfl rfl b0

theorem en_X9_sheetAt {d : Nat} {E : pEv} {ro : Nat → Nat → Int32} {Q : Option Value → pH → Prop} (s_E : oE E) {x1 : Int32} : wX (d + 1) 143 [.ref 10, .int x1] (mkH E ro) Q = wX d 146 [.int x1, .int 0, .int (4 - 1)] (mkH E ro) (fun v h' => wG d 143 (16, [.ref 10, .int x1], pv v [.ref 87], h') Q) := by
  refine (wX_in rfl (by decide)).trans ?_
  show wG d 143 (0, [.ref 10, .int x1], [], mkH E ro) Q = _
  refine (r_aload_n rfl rfl rfl).trans ?_
  refine (r_getR (ci := 9) (sl := 6) s_E rfl rfl rfl rfl (by decide) rfl rfl).trans ?_
  refine (r_iload_n rfl rfl rfl).trans ?_
  refine (r_iconst (v := 0) rfl rfl rfl).trans ?_
  refine (r_aload_n rfl rfl rfl).trans ?_
  refine (r_getR (ci := 9) (sl := 6) s_E rfl rfl rfl rfl (by decide) rfl rfl).trans ?_
  refine (r_alen (v := 4) rfl rfl rfl (by decide) (by decide) rfl).trans ?_
  refine (r_iconst (v := 1) rfl rfl rfl).trans ?_
  refine (r_isub rfl rfl).trans ?_
  exact r_ins (m := 146) rfl rfl rfl rfl rfl rfl

theorem sg_X9_sheetAt_16 {d : Nat} {E : pEv} {ro : Nat → Nat → Int32} {Q : Option Value → pH → Prop} (s_E : oE E) {x1 : Int32} {xs1 : Int32} (b0 : (¬ xs1 = 0) → (¬ x1 < 0 ∧ x1.toNatClampNeg < 4)) : wG d 143 (16, [.ref 10, .int x1], [.int xs1, .ref 87], mkH E ro) Q = (if xs1 = 0 then Q (some (.ref (88 + 3 * 0))) (mkH E ro) else Q (some (.ref (88 + 3 * x1.toNatClampNeg))) (mkH E ro)) := by
  refine (r_if_eq rfl rfl rfl).trans ?_
  refine ite_congr rfl (fun h_0 => ?_) (fun h_0 => ?_)
  · refine (r_iconst (v := 0) rfl rfl rfl).trans ?_
    refine (r_aald s_E rfl rfl rfl (Or.inr rfl) (by decide) (show ¬ (0 : Int32) < 0 ∧ (0 : Int32).toNatClampNeg < 4 by decide) (by decide) (by decide) (sh_at (show ¬ (0 : Int32) < 0 ∧ (0 : Int32).toNatClampNeg < 4 by decide).2).1).trans ?_
    exact r_aret rfl rfl
  · refine (r_iload_n rfl rfl rfl).trans ?_
    refine (r_goto rfl rfl).trans ?_
    refine (r_aald s_E rfl rfl rfl (Or.inr rfl) (by decide) (b0 h_0) (by decide) (by decide) (sh_at (b0 h_0).2).1).trans ?_
    exact r_aret rfl rfl

theorem en_X9_errorOfSheet {d : Nat} {E : pEv} {ro : Nat → Nat → Int32} {Q : Option Value → pH → Prop} (s_E : oE E) {x1 : Int32} : wX (d + 1) 144 [.ref 10, .int x1] (mkH E ro) Q = wX d 142 [.int x1] (mkH E ro) (fun v h' => wG d 144 (4, [.ref 10, .int x1], pv v [], h') Q) := by
  refine (wX_in rfl (by decide)).trans ?_
  show wG d 144 (0, [.ref 10, .int x1], [], mkH E ro) Q = _
  refine (r_iload_n rfl rfl rfl).trans ?_
  exact r_ins (m := 142) rfl rfl rfl rfl rfl rfl

theorem sg_X9_errorOfSheet_4 {d : Nat} {E : pEv} {ro : Nat → Nat → Int32} {Q : Option Value → pH → Prop} (s_E : oE E) {x1 : Int32} {xs0 : Int32} : wG d 144 (4, [.ref 10, .int x1], [.int xs0], mkH E ro) Q = (if xs0 = 0 then Q (some (.int (-1000000001))) (mkH E ro) else wX d 143 [.ref 10, .int x1] (mkH E ro) (fun v h' => wG d 144 (15, [.ref 10, .int x1], pv v [], h') Q)) := by
  refine (r_if_ne rfl rfl rfl).trans ?_
  refine ite_congr rfl (fun h_0 => ?_) (fun h_0 => ?_)
  · refine (r_ldc (v := (-1000000001)) rfl rfl rfl).trans ?_
    exact r_iret rfl rfl
  · refine (r_aload_n rfl rfl rfl).trans ?_
    refine (r_iload_n rfl rfl rfl).trans ?_
    exact r_inv (m := 143) (c := 9) rfl rfl rfl rfl rfl rfl rfl rfl

theorem sg_X9_errorOfSheet_15 {d : Nat} {E : pEv} {ro : Nat → Nat → Int32} {Q : Option Value → pH → Prop} (s_E : oE E) {x1 : Int32} {rs0 : Nat} (hs0 : oSheet rs0) : wG d 144 (15, [.ref 10, .int x1], [.ref rs0], mkH E ro) Q = (if (ro rs0 1) = 0 then Q (some (.int (-1000000002))) (mkH E ro) else Q (some (.int 0)) (mkH E ro)) := by
  refine (r_getI (ci := 6) (sl := 1) rfl rfl rfl hs0.2.1 hs0.1).trans ?_
  refine (r_if_ne rfl rfl rfl).trans ?_
  refine ite_congr rfl (fun h_0 => ?_) (fun h_0 => ?_)
  · refine (r_ldc (v := (-1000000002)) rfl rfl rfl).trans ?_
    refine (r_goto rfl rfl).trans ?_
    exact r_iret rfl rfl
  · refine (r_iconst (v := 0) rfl rfl rfl).trans ?_
    exact r_iret rfl rfl

theorem en_X9_errorOfEvenings {d : Nat} {E : pEv} {ro : Nat → Nat → Int32} {Q : Option Value → pH → Prop} (s_E : oE E) {x1 : Int32} : wX (d + 1) 145 [.ref 10, .int x1] (mkH E ro) Q = wX d 146 [.int x1, .int 1, .int 200] (mkH E ro) (fun v h' => wG d 145 (8, [.ref 10, .int x1], pv v [], h') Q) := by
  refine (wX_in rfl (by decide)).trans ?_
  show wG d 145 (0, [.ref 10, .int x1], [], mkH E ro) Q = _
  refine (r_iload_n rfl rfl rfl).trans ?_
  refine (r_iconst (v := 1) rfl rfl rfl).trans ?_
  refine (r_sipush (v := 200) rfl rfl rfl).trans ?_
  exact r_ins (m := 146) rfl rfl rfl rfl rfl rfl

theorem sg_X9_errorOfEvenings_8 {d : Nat} {E : pEv} {ro : Nat → Nat → Int32} {Q : Option Value → pH → Prop} (s_E : oE E) {x1 : Int32} {xs0 : Int32} : wG d 145 (8, [.ref 10, .int x1], [.int xs0], mkH E ro) Q = (if xs0 = 0 then Q (some (.int (-1000000001))) (mkH E ro) else (if 9999 < ((ro 11 10) + x1) then Q (some (.int (-1000000003))) (mkH E ro) else Q (some (.int 0)) (mkH E ro))) := by
  refine (r_if_ne rfl rfl rfl).trans ?_
  refine ite_congr rfl (fun h_0 => ?_) (fun h_0 => ?_)
  · refine (r_ldc (v := (-1000000001)) rfl rfl rfl).trans ?_
    exact r_iret rfl rfl
  · refine (r_aload_n rfl rfl rfl).trans ?_
    refine (r_getR (ci := 9) (sl := 0) s_E rfl rfl rfl rfl (by decide) rfl rfl).trans ?_
    refine (r_getI (ci := 2) (sl := 10) rfl rfl rfl rfl (by decide)).trans ?_
    refine (r_iload_n rfl rfl rfl).trans ?_
    refine (r_iadd rfl rfl).trans ?_
    refine (r_sipush (v := 9999) rfl rfl rfl).trans ?_
    refine (r_icmp_le rfl rfl rfl).trans ?_
    refine ite_congr rfl (fun h_1 => ?_) (fun h_1 => ?_)
    · refine (r_ldc_w (v := (-1000000003)) rfl rfl rfl).trans ?_
      refine (r_goto rfl rfl).trans ?_
      exact r_iret rfl rfl
    · refine (r_iconst (v := 0) rfl rfl rfl).trans ?_
      exact r_iret rfl rfl

theorem en_X9_within {d : Nat} {E : pEv} {ro : Nat → Nat → Int32} {Q : Option Value → pH → Prop} (s_E : oE E) {x0 : Int32} {x1 : Int32} {x2 : Int32} : wX (d + 1) 146 [.int x0, .int x1, .int x2] (mkH E ro) Q = (if x0 < x1 then Q (some (.int 0)) (mkH E ro) else (if x2 < x0 then Q (some (.int 0)) (mkH E ro) else Q (some (.int 1)) (mkH E ro))) := by
  refine (wX_in rfl (by decide)).trans ?_
  show wG d 146 (0, [.int x0, .int x1, .int x2], [], mkH E ro) Q = _
  refine (r_iload_n rfl rfl rfl).trans ?_
  refine (r_iload_n rfl rfl rfl).trans ?_
  refine (r_icmp_lt rfl rfl rfl).trans ?_
  refine ite_congr rfl (fun h_0 => ?_) (fun h_0 => ?_)
  · refine (r_iconst (v := 0) rfl rfl rfl).trans ?_
    exact r_zret rfl rfl rfl
  · refine (r_iload_n rfl rfl rfl).trans ?_
    refine (r_iload_n rfl rfl rfl).trans ?_
    refine (r_icmp_gt rfl rfl rfl).trans ?_
    refine ite_congr rfl (fun h_1 => ?_) (fun h_1 => ?_)
    · refine (r_iconst (v := 0) rfl rfl rfl).trans ?_
      exact r_zret rfl rfl rfl
    · refine (r_iconst (v := 1) rfl rfl rfl).trans ?_
      refine (r_goto rfl rfl).trans ?_
      exact r_zret rfl rfl rfl

theorem en_X9_held {d : Nat} {E : pEv} {ro : Nat → Nat → Int32} {Q : Option Value → pH → Prop} (s_E : oE E) {x0 : Int32} {x1 : Int32} {x2 : Int32} : wX (d + 1) 147 [.int x0, .int x1, .int x2] (mkH E ro) Q = Q (some (.int (if x1 < (if x0 < x2 then x0 else x2) then (if x0 < x2 then x0 else x2) else x1))) (mkH E ro) := by
  refine (wX_in rfl (by decide)).trans ?_
  show wG d 147 (0, [.int x0, .int x1, .int x2], [], mkH E ro) Q = _
  refine (r_iload_n rfl rfl rfl).trans ?_
  refine (r_iload_n rfl rfl rfl).trans ?_
  refine (r_iload_n rfl rfl rfl).trans ?_
  refine (r_min rfl rfl rfl).trans ?_
  refine (r_max rfl rfl rfl).trans ?_
  exact r_iret rfl rfl

theorem en_X9_truth {d : Nat} {E : pEv} {ro : Nat → Nat → Int32} {Q : Option Value → pH → Prop} (s_E : oE E) {x0 : Int32} : wX (d + 1) 148 [.int x0] (mkH E ro) Q = (if x0 = 0 then Q (some (.int 0)) (mkH E ro) else Q (some (.int 1)) (mkH E ro)) := by
  refine (wX_in rfl (by decide)).trans ?_
  show wG d 148 (0, [.int x0], [], mkH E ro) Q = _
  refine (r_iload_n rfl rfl rfl).trans ?_
  refine (r_if_eq rfl rfl rfl).trans ?_
  refine ite_congr rfl (fun h_0 => ?_) (fun h_0 => ?_)
  · refine (r_iconst (v := 0) rfl rfl rfl).trans ?_
    exact r_iret rfl rfl
  · refine (r_iconst (v := 1) rfl rfl rfl).trans ?_
    refine (r_goto rfl rfl).trans ?_
    exact r_iret rfl rfl

theorem en_X9_leastOf {d : Nat} {E : pEv} {ro : Nat → Nat → Int32} {Q : Option Value → pH → Prop} (s_E : oE E) {x0 : Int32} : wX (d + 1) 149 [.int x0] (mkH E ro) Q = (if x0 = 0 then Q (some (.int (-1))) (mkH E ro) else wX d 255 [.int ((x0 &&& (-x0)) - 1)] (mkH E ro) (fun v h' => wG d 149 (17, [.int x0], pv v [], h') Q)) := by
  refine (wX_in rfl (by decide)).trans ?_
  show wG d 149 (0, [.int x0], [], mkH E ro) Q = _
  refine (r_iload_n rfl rfl rfl).trans ?_
  refine (r_if_ne rfl rfl rfl).trans ?_
  refine ite_congr rfl (fun h_0 => ?_) (fun h_0 => ?_)
  · refine (r_iconst (v := (-1)) rfl rfl rfl).trans ?_
    refine (r_goto rfl rfl).trans ?_
    exact r_iret rfl rfl
  · refine (r_iload_n rfl rfl rfl).trans ?_
    refine (r_iload_n rfl rfl rfl).trans ?_
    refine (r_ineg rfl rfl).trans ?_
    refine (r_iand rfl rfl).trans ?_
    refine (r_iconst (v := 1) rfl rfl rfl).trans ?_
    refine (r_isub rfl rfl).trans ?_
    exact r_ins (m := 255) rfl rfl rfl rfl rfl rfl

theorem sg_X9_leastOf_17 {d : Nat} {E : pEv} {ro : Nat → Nat → Int32} {Q : Option Value → pH → Prop} (s_E : oE E) {x0 : Int32} {xs0 : Int32} : wG d 149 (17, [.int x0], [.int xs0], mkH E ro) Q = Q (some (.int xs0)) (mkH E ro) := by
  exact r_iret rfl rfl

theorem en_X9_aboveOf {d : Nat} {E : pEv} {ro : Nat → Nat → Int32} {Q : Option Value → pH → Prop} (s_E : oE E) {x0 : Int32} : wX (d + 1) 150 [.int x0] (mkH E ro) Q = wX d 146 [.int x0, .int 0, .int (7 - 1)] (mkH E ro) (fun v h' => wG d 150 (11, [.int x0], pv v [], h') Q) := by
  refine (wX_in rfl (by decide)).trans ?_
  show wG d 150 (0, [.int x0], [], mkH E ro) Q = _
  refine (r_iload_n rfl rfl rfl).trans ?_
  refine (r_iconst (v := 0) rfl rfl rfl).trans ?_
  refine (r_gets (q := 6) rfl rfl rfl).trans ?_
  refine (r_alen (v := 7) rfl rfl rfl (by decide) (by decide) rfl).trans ?_
  refine (r_iconst (v := 1) rfl rfl rfl).trans ?_
  refine (r_isub rfl rfl).trans ?_
  exact r_ins (m := 146) rfl rfl rfl rfl rfl rfl

theorem sg_X9_aboveOf_11 {d : Nat} {E : pEv} {ro : Nat → Nat → Int32} {Q : Option Value → pH → Prop} (s_E : oE E) {x0 : Int32} {xs0 : Int32} (b0 : (¬ xs0 = 0) → (¬ x0 < 0 ∧ x0.toNatClampNeg < 7)) : wG d 150 (11, [.int x0], [.int xs0], mkH E ro) Q = (if xs0 = 0 then Q (some (.int (-1))) (mkH E ro) else Q (some (.int (exI E.2.1 6 x0.toNatClampNeg))) (mkH E ro)) := by
  refine (r_if_eq rfl rfl rfl).trans ?_
  refine ite_congr rfl (fun h_0 => ?_) (fun h_0 => ?_)
  · refine (r_iconst (v := (-1)) rfl rfl rfl).trans ?_
    exact r_iret rfl rfl
  · refine (r_gets (q := 6) rfl rfl rfl).trans ?_
    refine (r_iload_n rfl rfl rfl).trans ?_
    refine (r_ialdT rfl rfl rfl (by decide) (b0 h_0)).trans ?_
    refine (r_goto rfl rfl).trans ?_
    exact r_iret rfl rfl

theorem en_X9_isUnder {d : Nat} {E : pEv} {ro : Nat → Nat → Int32} {Q : Option Value → pH → Prop} (s_E : oE E) {x0 : Int32} {x1 : Int32} : wX (d + 1) 151 [.int x0, .int x1] (mkH E ro) Q = wG d 151 (4, [.int x0, .int x1, .int x0, .int 0], [], mkH E ro) Q := by
  refine (wX_in rfl (by decide)).trans ?_
  show wG d 151 (0, [.int x0, .int x1, .retAddr 0, .retAddr 0], [], mkH E ro) Q = _
  refine (r_iload_n rfl rfl rfl).trans ?_
  refine (r_istore_n rfl rfl rfl rfl).trans ?_
  refine (r_iconst (v := 0) rfl rfl rfl).trans ?_
  refine (r_istore_n rfl rfl rfl rfl).trans ?_
  exact rfl

theorem sg_X9_isUnder_4 {d : Nat} {E : pEv} {ro : Nat → Nat → Int32} {Q : Option Value → pH → Prop} (s_E : oE E) {x0 : Int32} {x1 : Int32} {x2 : Int32} {x3 : Int32} : wG d 151 (4, [.int x0, .int x1, .int x2, .int x3], [], mkH E ro) Q = (if x3 < 7 then (if x2 < 0 then Q (some (.int 0)) (mkH E ro) else (if x2 = x1 then Q (some (.int 1)) (mkH E ro) else wX d 150 [.int x2] (mkH E ro) (fun v h' => wG d 151 (25, [.int x0, .int x1, .int x2, .int x3], pv v [], h') Q))) else Q (some (.int 0)) (mkH E ro)) := by
  refine (r_iload_n rfl rfl rfl).trans ?_
  refine (r_bipush (v := 7) rfl rfl rfl).trans ?_
  refine (r_icmp_ge rfl rfl rfl).trans ?_
  refine ite_congr rfl (fun h_0 => ?_) (fun h_0 => ?_)
  · refine (r_iload_n rfl rfl rfl).trans ?_
    refine (r_if_lt rfl rfl rfl).trans ?_
    refine ite_congr rfl (fun h_1 => ?_) (fun h_1 => ?_)
    · refine (r_iconst (v := 0) rfl rfl rfl).trans ?_
      exact r_zret rfl rfl rfl
    · refine (r_iload_n rfl rfl rfl).trans ?_
      refine (r_iload_n rfl rfl rfl).trans ?_
      refine (r_icmp_ne rfl rfl rfl).trans ?_
      refine ite_congr rfl (fun h_2 => ?_) (fun h_2 => ?_)
      · refine (r_iconst (v := 1) rfl rfl rfl).trans ?_
        exact r_zret rfl rfl rfl
      · refine (r_iload_n rfl rfl rfl).trans ?_
        exact r_ins (m := 150) rfl rfl rfl rfl rfl rfl
  · refine (r_iconst (v := 0) rfl rfl rfl).trans ?_
    exact r_zret rfl rfl rfl

theorem sg_X9_isUnder_25 {d : Nat} {E : pEv} {ro : Nat → Nat → Int32} {Q : Option Value → pH → Prop} (s_E : oE E) {x0 : Int32} {x1 : Int32} {x2 : Int32} {x3 : Int32} {xs0 : Int32} : wG d 151 (25, [.int x0, .int x1, .int x2, .int x3], [.int xs0], mkH E ro) Q = wG d 151 (4, [.int x0, .int x1, .int xs0, .int (x3 + 1)], [], mkH E ro) Q := by
  refine (r_istore_n rfl rfl rfl rfl).trans ?_
  refine (r_iinc (y := 1) rfl rfl rfl rfl rfl rfl).trans ?_
  refine (r_goto rfl rfl).trans ?_
  exact rfl
