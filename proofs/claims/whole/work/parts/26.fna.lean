/-! specs of methods without loops, by program -/
section QQ
variable {Q : Option Value → pH → Prop} {E : pEv} {h : pH}
theorem q_i {c : Prop} [Decidable c] {a b : Int32} : (if c then Q (some (.int a)) h else Q (some (.int b)) h) = Q (some (.int (if c then a else b))) h := by split <;> rfl
theorem q_is {c : Prop} [Decidable c] {a b : Int32} {r s : Nat → Nat → Int32} : (if c then Q (some (.int a)) (mkH E r) else Q (some (.int b)) (mkH E s)) = Q (some (.int (if c then a else b))) (mkH E (if c then r else s)) := by split <;> rfl
theorem q_v {c : Prop} [Decidable c] {r s : Nat → Nat → Int32} : (if c then Q none (mkH E r) else Q none (mkH E s)) = Q none (mkH E (if c then r else s)) := by split <;> rfl
theorem q_vs {c : Prop} [Decidable c] : (if c then Q none h else Q none h) = Q none h := by split <;> rfl
theorem q_r {c : Prop} [Decidable c] {a b : Nat} : (if c then Q (some (.ref a)) h else Q (some (.ref b)) h) = Q (some (.ref (if c then a else b))) h := by split <;> rfl
end QQ
def f_X0_has (x0 : Int32) (x1 : Int32) : Int32 := (if ((x0 >>> (x1 &&& 31)) &&& 1) = 1 then 1 else 0)
theorem x_X0_has {d : Nat} {E : pEv} {ro : Nat → Nat → Int32} {Q : Option Value → pH → Prop} (s_E : oE E) {x0 : Int32} {x1 : Int32} : wX (d + 1) 1 [.int x0, .int x1] (mkH E ro) Q = Q (some (.int (f_X0_has x0 x1))) (mkH E ro) := by
  show _ = Q (some (.int (if ((x0 >>> (x1 &&& 31)) &&& 1) = 1 then 1 else 0))) (mkH E ro)
  refine (wX_in rfl (by decide)).trans ?_
  show wG (d) 1 (0, [.int x0, .int x1], [], mkH E ro) Q = _
  refine (r_iload_n rfl rfl rfl).trans ?_
  refine (r_iload_n rfl rfl rfl).trans ?_
  refine (r_ishr rfl rfl).trans ?_
  refine (r_iconst (v := 1) rfl rfl rfl).trans ?_
  refine (r_iand rfl rfl).trans ?_
  refine (r_iconst (v := 1) rfl rfl rfl).trans ?_
  refine (r_icmp_ne rfl rfl rfl).trans ?_
  refine Eq.trans (ite_congr rfl (fun h_0 => ?_) (fun h_0 => ?_)) q_i
  · refine (r_iconst (v := 1) rfl rfl rfl).trans ?_
    refine (r_goto rfl rfl).trans ?_
    exact r_zret rfl rfl rfl
  · refine (r_iconst (v := 0) rfl rfl rfl).trans ?_
    exact r_zret rfl rfl rfl
theorem z_X0_has {x0 : Int32} {x1 : Int32} : narrow .boolean (.int (f_X0_has x0 x1)) = .int (f_X0_has x0 x1) := by
  unfold f_X0_has
  (repeat' split) <;> first | rfl

def f_X1_joined (x0 : Int32) (x1 : Int32) (x2 : Int32) : Int32 := (if x0 = 38 then (if x1 = 0 then 0 else (if x2 = 0 then 0 else 1)) else (if x0 = 42 then x1 * x2 else (if x0 = 43 then x1 + x2 else (if x0 = 45 then x1 - x2 else (if x0 = 47 then (if x2 = 0 then 0 else x1 / x2) else (if x0 = 60 then (if x1 < x2 then 1 else 0) else (if x0 = 61 then (if x1 = x2 then 1 else 0) else (if x0 = 62 then (if x2 < x1 then 1 else 0) else (if x0 = 124 then (if x1 = 0 then (if x2 = 0 then 0 else 1) else 1) else (if x2 = 0 then 0 else x1 - x1 / x2 * x2))))))))))
theorem x_X1_joined {d : Nat} {E : pEv} {ro : Nat → Nat → Int32} {Q : Option Value → pH → Prop} (s_E : oE E) {x0 : Int32} {x1 : Int32} {x2 : Int32} : wX (d + 1) 18 [.int x0, .int x1, .int x2] (mkH E ro) Q = Q (some (.int (f_X1_joined x0 x1 x2))) (mkH E ro) := by
  show _ = Q (some (.int (if x0 = 38 then (if x1 = 0 then 0 else (if x2 = 0 then 0 else 1)) else (if x0 = 42 then x1 * x2 else (if x0 = 43 then x1 + x2 else (if x0 = 45 then x1 - x2 else (if x0 = 47 then (if x2 = 0 then 0 else x1 / x2) else (if x0 = 60 then (if x1 < x2 then 1 else 0) else (if x0 = 61 then (if x1 = x2 then 1 else 0) else (if x0 = 62 then (if x2 < x1 then 1 else 0) else (if x0 = 124 then (if x1 = 0 then (if x2 = 0 then 0 else 1) else 1) else (if x2 = 0 then 0 else x1 - x1 / x2 * x2)))))))))))) (mkH E ro)
  refine (wX_in rfl (by decide)).trans ?_
  show wG (d) 18 (0, [.int x0, .int x1, .int x2], [], mkH E ro) Q = _
  refine (r_iload_n rfl rfl rfl).trans ?_
  refine (r_lk rfl rfl).trans ?_
  refine (r_swc (y := 38) rfl).trans ?_
  refine Eq.trans (ite_congr rfl (fun h_0 => ?_) (fun h_0 => ?_)) q_i
  · refine (r_iload_n rfl rfl rfl).trans ?_
    refine (r_if_eq rfl rfl rfl).trans ?_
    refine Eq.trans (ite_congr rfl (fun h_1 => ?_) (fun h_1 => ?_)) q_i
    · refine (r_iconst (v := 0) rfl rfl rfl).trans ?_
      exact r_iret rfl rfl
    · refine (r_iload_n rfl rfl rfl).trans ?_
      refine (r_if_eq rfl rfl rfl).trans ?_
      refine Eq.trans (ite_congr rfl (fun h_2 => ?_) (fun h_2 => ?_)) q_i
      · refine (r_iconst (v := 0) rfl rfl rfl).trans ?_
        exact r_iret rfl rfl
      · refine (r_iconst (v := 1) rfl rfl rfl).trans ?_
        refine (r_goto rfl rfl).trans ?_
        exact r_iret rfl rfl
  · refine (r_swc (y := 42) rfl).trans ?_
    refine Eq.trans (ite_congr rfl (fun h_1 => ?_) (fun h_1 => ?_)) q_i
    · refine (r_iload_n rfl rfl rfl).trans ?_
      refine (r_iload_n rfl rfl rfl).trans ?_
      refine (r_imul rfl rfl).trans ?_
      exact r_iret rfl rfl
    · refine (r_swc (y := 43) rfl).trans ?_
      refine Eq.trans (ite_congr rfl (fun h_2 => ?_) (fun h_2 => ?_)) q_i
      · refine (r_iload_n rfl rfl rfl).trans ?_
        refine (r_iload_n rfl rfl rfl).trans ?_
        refine (r_iadd rfl rfl).trans ?_
        exact r_iret rfl rfl
      · refine (r_swc (y := 45) rfl).trans ?_
        refine Eq.trans (ite_congr rfl (fun h_3 => ?_) (fun h_3 => ?_)) q_i
        · refine (r_iload_n rfl rfl rfl).trans ?_
          refine (r_iload_n rfl rfl rfl).trans ?_
          refine (r_isub rfl rfl).trans ?_
          exact r_iret rfl rfl
        · refine (r_swc (y := 47) rfl).trans ?_
          refine Eq.trans (ite_congr rfl (fun h_4 => ?_) (fun h_4 => ?_)) q_i
          · refine (r_iload_n rfl rfl rfl).trans ?_
            refine (r_if_ne rfl rfl rfl).trans ?_
            refine Eq.trans (ite_congr rfl (fun h_5 => ?_) (fun h_5 => ?_)) q_i
            · refine (r_iconst (v := 0) rfl rfl rfl).trans ?_
              refine (r_goto rfl rfl).trans ?_
              exact r_iret rfl rfl
            · refine (r_iload_n rfl rfl rfl).trans ?_
              refine (r_iload_n rfl rfl rfl).trans ?_
              refine (r_idiv rfl rfl h_5).trans ?_
              exact r_iret rfl rfl
          · refine (r_swc (y := 60) rfl).trans ?_
            refine Eq.trans (ite_congr rfl (fun h_5 => ?_) (fun h_5 => ?_)) q_i
            · refine (r_iload_n rfl rfl rfl).trans ?_
              refine (r_iload_n rfl rfl rfl).trans ?_
              refine (r_icmp_ge rfl rfl rfl).trans ?_
              refine Eq.trans (ite_congr rfl (fun h_6 => ?_) (fun h_6 => ?_)) q_i
              · refine (r_iconst (v := 1) rfl rfl rfl).trans ?_
                refine (r_goto rfl rfl).trans ?_
                exact r_iret rfl rfl
              · refine (r_iconst (v := 0) rfl rfl rfl).trans ?_
                exact r_iret rfl rfl
            · refine (r_swc (y := 61) rfl).trans ?_
              refine Eq.trans (ite_congr rfl (fun h_6 => ?_) (fun h_6 => ?_)) q_i
              · refine (r_iload_n rfl rfl rfl).trans ?_
                refine (r_iload_n rfl rfl rfl).trans ?_
                refine (r_icmp_ne rfl rfl rfl).trans ?_
                refine Eq.trans (ite_congr rfl (fun h_7 => ?_) (fun h_7 => ?_)) q_i
                · refine (r_iconst (v := 1) rfl rfl rfl).trans ?_
                  refine (r_goto rfl rfl).trans ?_
                  exact r_iret rfl rfl
                · refine (r_iconst (v := 0) rfl rfl rfl).trans ?_
                  exact r_iret rfl rfl
              · refine (r_swc (y := 62) rfl).trans ?_
                refine Eq.trans (ite_congr rfl (fun h_7 => ?_) (fun h_7 => ?_)) q_i
                · refine (r_iload_n rfl rfl rfl).trans ?_
                  refine (r_iload_n rfl rfl rfl).trans ?_
                  refine (r_icmp_le rfl rfl rfl).trans ?_
                  refine Eq.trans (ite_congr rfl (fun h_8 => ?_) (fun h_8 => ?_)) q_i
                  · refine (r_iconst (v := 1) rfl rfl rfl).trans ?_
                    refine (r_goto rfl rfl).trans ?_
                    exact r_iret rfl rfl
                  · refine (r_iconst (v := 0) rfl rfl rfl).trans ?_
                    exact r_iret rfl rfl
                · refine (r_swc (y := 124) rfl).trans ?_
                  refine Eq.trans (ite_congr rfl (fun h_8 => ?_) (fun h_8 => ?_)) q_i
                  · refine (r_iload_n rfl rfl rfl).trans ?_
                    refine (r_if_ne rfl rfl rfl).trans ?_
                    refine Eq.trans (ite_congr rfl (fun h_9 => ?_) (fun h_9 => ?_)) q_i
                    · refine (r_iload_n rfl rfl rfl).trans ?_
                      refine (r_if_eq rfl rfl rfl).trans ?_
                      refine Eq.trans (ite_congr rfl (fun h_10 => ?_) (fun h_10 => ?_)) q_i
                      · refine (r_iconst (v := 0) rfl rfl rfl).trans ?_
                        exact r_iret rfl rfl
                      · refine (r_iconst (v := 1) rfl rfl rfl).trans ?_
                        refine (r_goto rfl rfl).trans ?_
                        exact r_iret rfl rfl
                    · refine (r_iconst (v := 1) rfl rfl rfl).trans ?_
                      refine (r_goto rfl rfl).trans ?_
                      exact r_iret rfl rfl
                  · refine r_swn.trans ?_
                    refine (r_iload_n rfl rfl rfl).trans ?_
                    refine (r_if_ne rfl rfl rfl).trans ?_
                    refine Eq.trans (ite_congr rfl (fun h_9 => ?_) (fun h_9 => ?_)) q_i
                    · refine (r_iconst (v := 0) rfl rfl rfl).trans ?_
                      refine (r_goto rfl rfl).trans ?_
                      exact r_iret rfl rfl
                    · refine (r_iload_n rfl rfl rfl).trans ?_
                      refine (r_iload_n rfl rfl rfl).trans ?_
                      refine (r_irem rfl rfl h_9).trans ?_
                      exact r_iret rfl rfl

def f_X2_at (r0 : Nat) (x1 : Int32) : Nat := (if x1 < 0 then (r0 + 2 + 0) else (if x1 < 7 then (r0 + 2 + x1.toNatClampNeg) else (r0 + 2 + 0)))
theorem x_X2_at {d : Nat} {E : pEv} {ro : Nat → Nat → Int32} {Q : Option Value → pH → Prop} (s_E : oE E) {r0 : Nat} (h0 : oPlay r0) {x1 : Int32} : wX (d + 1) 20 [.ref r0, .int x1] (mkH E ro) Q = Q (some (.ref (f_X2_at r0 x1))) (mkH E ro) := by
  show _ = Q (some (.ref (if x1 < 0 then (r0 + 2 + 0) else (if x1 < 7 then (r0 + 2 + x1.toNatClampNeg) else (r0 + 2 + 0))))) (mkH E ro)
  refine (wX_in rfl (by decide)).trans ?_
  show wG (d) 20 (0, [.ref r0, .int x1], [], mkH E ro) Q = _
  refine (r_aload_n rfl rfl rfl).trans ?_
  refine (r_getR (ci := 2) (sl := 0) s_E rfl rfl rfl h0.2.1 h0.1 h0.2.2.1 (n81 h0.2.1 (by decide))).trans ?_
  refine (r_iload_n rfl rfl rfl).trans ?_
  refine (r_if_lt rfl rfl rfl).trans ?_
  refine Eq.trans (ite_congr rfl (fun h_0 => ?_) (fun h_0 => ?_)) q_r
  · refine (r_iconst (v := 0) rfl rfl rfl).trans ?_
    refine (r_aald s_E rfl rfl h0.2.2.2.2.2.2.2.2.2.1 (Or.inl rfl) (Nat.le_succ_of_le h0.1) (show ¬ (0 : Int32) < 0 ∧ (0 : Int32).toNatClampNeg < 7 by decide) (by decide) (ne81 h0.2.2.2.2.2.2.2.2.2.1 (by decide)) ((h0.2.2.2.2.2.2.2.2.2.2.1 _ (show ¬ (0 : Int32) < 0 ∧ (0 : Int32).toNatClampNeg < 7 by decide).2).1)).trans ?_
    exact r_aret rfl rfl
  · refine (r_iload_n rfl rfl rfl).trans ?_
    refine (r_aload_n rfl rfl rfl).trans ?_
    refine (r_getR (ci := 2) (sl := 0) s_E rfl rfl rfl h0.2.1 h0.1 h0.2.2.1 (n81 h0.2.1 (by decide))).trans ?_
    refine (r_alen (v := 7) rfl rfl h0.2.2.2.2.2.2.2.2.2.1 (ne9 (Nat.le_succ_of_le h0.1)) (by decide) rfl).trans ?_
    refine (r_icmp_ge rfl rfl rfl).trans ?_
    refine Eq.trans (ite_congr rfl (fun h_1 => ?_) (fun h_1 => ?_)) q_r
    · refine (r_iload_n rfl rfl rfl).trans ?_
      refine (r_goto rfl rfl).trans ?_
      refine (r_aald s_E rfl rfl h0.2.2.2.2.2.2.2.2.2.1 (Or.inl rfl) (Nat.le_succ_of_le h0.1) (ixL (n := 7) (by decide) h_0 h_1) (by decide) (ne81 h0.2.2.2.2.2.2.2.2.2.1 (by decide)) ((h0.2.2.2.2.2.2.2.2.2.2.1 _ (ixL (n := 7) (by decide) h_0 h_1).2).1)).trans ?_
      exact r_aret rfl rfl
    · refine (r_iconst (v := 0) rfl rfl rfl).trans ?_
      refine (r_aald s_E rfl rfl h0.2.2.2.2.2.2.2.2.2.1 (Or.inl rfl) (Nat.le_succ_of_le h0.1) (show ¬ (0 : Int32) < 0 ∧ (0 : Int32).toNatClampNeg < 7 by decide) (by decide) (ne81 h0.2.2.2.2.2.2.2.2.2.1 (by decide)) ((h0.2.2.2.2.2.2.2.2.2.2.1 _ (show ¬ (0 : Int32) < 0 ∧ (0 : Int32).toNatClampNeg < 7 by decide).2).1)).trans ?_
      exact r_aret rfl rfl
theorem oSc_at {p : Nat} {x : Int32} (h : oPlay p) : oScene (f_X2_at p x) := by
  unfold f_X2_at
  have h7 := h.2.2.2.2.2.2.2.2.2.2.1
  split
  · exact (h7 0 (by decide)).2
  · split
    · rename_i h1 h2
      exact (h7 _ (ixL (n := 7) (by decide) h1 h2).2).2
    · exact (h7 0 (by decide)).2

def f_X2_lawOf (x1 : Int32) : Nat := (if x1 = 0 then 22 else 27)
theorem x_X2_lawOf {d : Nat} {E : pEv} {ro : Nat → Nat → Int32} {Q : Option Value → pH → Prop} (s_E : oE E) {x1 : Int32} : wX (d + 1) 21 [.ref 11, .int x1] (mkH E ro) Q = Q (some (.ref (f_X2_lawOf x1))) (mkH E ro) := by
  show _ = Q (some (.ref (if x1 = 0 then 22 else 27))) (mkH E ro)
  refine (wX_in rfl (by decide)).trans ?_
  show wG (d) 21 (0, [.ref 11, .int x1], [], mkH E ro) Q = _
  refine (r_iload_n rfl rfl rfl).trans ?_
  refine (r_if_ne rfl rfl rfl).trans ?_
  refine Eq.trans (ite_congr rfl (fun h_0 => ?_) (fun h_0 => ?_)) q_r
  · refine (r_aload_n rfl rfl rfl).trans ?_
    refine (r_getR (ci := 2) (sl := 2) s_E rfl rfl rfl rfl (by decide) rfl rfl).trans ?_
    refine (r_goto rfl rfl).trans ?_
    exact r_aret rfl rfl
  · refine (r_aload_n rfl rfl rfl).trans ?_
    refine (r_getR (ci := 2) (sl := 3) s_E rfl rfl rfl rfl (by decide) rfl rfl).trans ?_
    exact r_aret rfl rfl
theorem oLw_of {x : Int32} : oLaw (f_X2_lawOf x) := by
  unfold f_X2_lawOf
  split
  · exact oL rfl (oR rfl) (oR rfl)
  · exact oL rfl (oR rfl) (oR rfl)

def f_X2_all (ro : Nat → Nat → Int32) : Int32 := ((1 : Int32) <<< ((ro 11 7) &&& 31)) - 1
theorem x_X2_all {d : Nat} {E : pEv} {ro : Nat → Nat → Int32} {Q : Option Value → pH → Prop} (s_E : oE E) : wX (d + 1) 22 [.ref 11] (mkH E ro) Q = Q (some (.int (f_X2_all ro))) (mkH E ro) := by
  show _ = Q (some (.int (((1 : Int32) <<< ((ro 11 7) &&& 31)) - 1))) (mkH E ro)
  refine (wX_in rfl (by decide)).trans ?_
  show wG (d) 22 (0, [.ref 11], [], mkH E ro) Q = _
  refine (r_iconst (v := 1) rfl rfl rfl).trans ?_
  refine (r_aload_n rfl rfl rfl).trans ?_
  refine (r_getI (ci := 2) (sl := 7) rfl rfl rfl rfl (by decide)).trans ?_
  refine (r_ishl rfl rfl).trans ?_
  refine (r_iconst (v := 1) rfl rfl rfl).trans ?_
  refine (r_isub rfl rfl).trans ?_
  exact r_iret rfl rfl

def f_X3_levelOf (x0 : Int32) : Int32 := (if x0 = 37 then 4 else (if x0 = 38 then 1 else (if x0 = 42 then 4 else (if x0 = 43 then 3 else (if x0 = 45 then 3 else (if x0 = 47 then 4 else (if x0 = 60 then 2 else (if x0 = 61 then 2 else (if x0 = 62 then 2 else (if x0 = 124 then 0 else (-1)))))))))))
theorem x_X3_levelOf {d : Nat} {E : pEv} {ro : Nat → Nat → Int32} {Q : Option Value → pH → Prop} (s_E : oE E) {x0 : Int32} : wX (d + 1) 48 [.int x0] (mkH E ro) Q = Q (some (.int (f_X3_levelOf x0))) (mkH E ro) := by
  show _ = Q (some (.int (if x0 = 37 then 4 else (if x0 = 38 then 1 else (if x0 = 42 then 4 else (if x0 = 43 then 3 else (if x0 = 45 then 3 else (if x0 = 47 then 4 else (if x0 = 60 then 2 else (if x0 = 61 then 2 else (if x0 = 62 then 2 else (if x0 = 124 then 0 else (-1))))))))))))) (mkH E ro)
  refine (wX_in rfl (by decide)).trans ?_
  show wG (d) 48 (0, [.int x0], [], mkH E ro) Q = _
  refine (r_iload_n rfl rfl rfl).trans ?_
  refine (r_lk rfl rfl).trans ?_
  refine (r_swc (y := 37) rfl).trans ?_
  refine Eq.trans (ite_congr rfl (fun h_0 => ?_) (fun h_0 => ?_)) q_i
  · refine (r_iconst (v := 4) rfl rfl rfl).trans ?_
    exact r_iret rfl rfl
  · refine (r_swc (y := 38) rfl).trans ?_
    refine Eq.trans (ite_congr rfl (fun h_1 => ?_) (fun h_1 => ?_)) q_i
    · refine (r_iconst (v := 1) rfl rfl rfl).trans ?_
      exact r_iret rfl rfl
    · refine (r_swc (y := 42) rfl).trans ?_
      refine Eq.trans (ite_congr rfl (fun h_2 => ?_) (fun h_2 => ?_)) q_i
      · refine (r_iconst (v := 4) rfl rfl rfl).trans ?_
        exact r_iret rfl rfl
      · refine (r_swc (y := 43) rfl).trans ?_
        refine Eq.trans (ite_congr rfl (fun h_3 => ?_) (fun h_3 => ?_)) q_i
        · refine (r_iconst (v := 3) rfl rfl rfl).trans ?_
          exact r_iret rfl rfl
        · refine (r_swc (y := 45) rfl).trans ?_
          refine Eq.trans (ite_congr rfl (fun h_4 => ?_) (fun h_4 => ?_)) q_i
          · refine (r_iconst (v := 3) rfl rfl rfl).trans ?_
            exact r_iret rfl rfl
          · refine (r_swc (y := 47) rfl).trans ?_
            refine Eq.trans (ite_congr rfl (fun h_5 => ?_) (fun h_5 => ?_)) q_i
            · refine (r_iconst (v := 4) rfl rfl rfl).trans ?_
              exact r_iret rfl rfl
            · refine (r_swc (y := 60) rfl).trans ?_
              refine Eq.trans (ite_congr rfl (fun h_6 => ?_) (fun h_6 => ?_)) q_i
              · refine (r_iconst (v := 2) rfl rfl rfl).trans ?_
                exact r_iret rfl rfl
              · refine (r_swc (y := 61) rfl).trans ?_
                refine Eq.trans (ite_congr rfl (fun h_7 => ?_) (fun h_7 => ?_)) q_i
                · refine (r_iconst (v := 2) rfl rfl rfl).trans ?_
                  exact r_iret rfl rfl
                · refine (r_swc (y := 62) rfl).trans ?_
                  refine Eq.trans (ite_congr rfl (fun h_8 => ?_) (fun h_8 => ?_)) q_i
                  · refine (r_iconst (v := 2) rfl rfl rfl).trans ?_
                    exact r_iret rfl rfl
                  · refine (r_swc (y := 124) rfl).trans ?_
                    refine Eq.trans (ite_congr rfl (fun h_9 => ?_) (fun h_9 => ?_)) q_i
                    · refine (r_iconst (v := 0) rfl rfl rfl).trans ?_
                      exact r_iret rfl rfl
                    · refine r_swn.trans ?_
                      refine (r_iconst (v := (-1)) rfl rfl rfl).trans ?_
                      exact r_iret rfl rfl

def f_X3_isDigit (x0 : Int32) : Int32 := (if x0 < 48 then 0 else (if 57 < x0 then 0 else 1))
theorem x_X3_isDigit {d : Nat} {E : pEv} {ro : Nat → Nat → Int32} {Q : Option Value → pH → Prop} (s_E : oE E) {x0 : Int32} : wX (d + 1) 54 [.int x0] (mkH E ro) Q = Q (some (.int (f_X3_isDigit x0))) (mkH E ro) := by
  show _ = Q (some (.int (if x0 < 48 then 0 else (if 57 < x0 then 0 else 1)))) (mkH E ro)
  refine (wX_in rfl (by decide)).trans ?_
  show wG (d) 54 (0, [.int x0], [], mkH E ro) Q = _
  refine (r_iload_n rfl rfl rfl).trans ?_
  refine (r_bipush (v := 48) rfl rfl rfl).trans ?_
  refine (r_icmp_lt rfl rfl rfl).trans ?_
  refine Eq.trans (ite_congr rfl (fun h_0 => ?_) (fun h_0 => ?_)) q_i
  · refine (r_iconst (v := 0) rfl rfl rfl).trans ?_
    exact r_zret rfl rfl rfl
  · refine (r_iload_n rfl rfl rfl).trans ?_
    refine (r_bipush (v := 57) rfl rfl rfl).trans ?_
    refine (r_icmp_gt rfl rfl rfl).trans ?_
    refine Eq.trans (ite_congr rfl (fun h_1 => ?_) (fun h_1 => ?_)) q_i
    · refine (r_iconst (v := 0) rfl rfl rfl).trans ?_
      exact r_zret rfl rfl rfl
    · refine (r_iconst (v := 1) rfl rfl rfl).trans ?_
      refine (r_goto rfl rfl).trans ?_
      exact r_zret rfl rfl rfl
theorem z_X3_isDigit {x0 : Int32} : narrow .boolean (.int (f_X3_isDigit x0)) = .int (f_X3_isDigit x0) := by
  unfold f_X3_isDigit
  (repeat' split) <;> first | rfl

def f_X4_at (ro : Nat → Nat → Int32) (r0 : Nat) (c_h0 : Nat) (x1 : Int32) : Int32 := (if x1 < 0 then 0 else (if x1 < (ro r0 1) then (if x1 < (Int32.ofNat c_h0) then ro (r0 + 1) x1.toNatClampNeg else 0) else 0))
theorem x_X4_at {d : Nat} {E : pEv} {ro : Nat → Nat → Int32} {Q : Option Value → pH → Prop} (s_E : oE E) {r0 c_h0 : Nat} (h0 : oRow r0 c_h0) {x1 : Int32} : wX (d + 1) 57 [.ref r0, .int x1] (mkH E ro) Q = Q (some (.int (f_X4_at ro r0 c_h0 x1))) (mkH E ro) := by
  show _ = Q (some (.int (if x1 < 0 then 0 else (if x1 < (ro r0 1) then (if x1 < (Int32.ofNat c_h0) then ro (r0 + 1) x1.toNatClampNeg else 0) else 0)))) (mkH E ro)
  refine (wX_in rfl (by decide)).trans ?_
  show wG (d) 57 (0, [.ref r0, .int x1], [], mkH E ro) Q = _
  refine (r_iload_n rfl rfl rfl).trans ?_
  refine (r_if_lt rfl rfl rfl).trans ?_
  refine Eq.trans (ite_congr rfl (fun h_0 => ?_) (fun h_0 => ?_)) q_i
  · refine (r_iconst (v := 0) rfl rfl rfl).trans ?_
    exact r_iret rfl rfl
  · refine (r_iload_n rfl rfl rfl).trans ?_
    refine (r_aload_n rfl rfl rfl).trans ?_
    refine (r_getI (ci := 4) (sl := 1) rfl rfl rfl h0.2.1 h0.1).trans ?_
    refine (r_icmp_ge rfl rfl rfl).trans ?_
    refine Eq.trans (ite_congr rfl (fun h_1 => ?_) (fun h_1 => ?_)) q_i
    · refine (r_iload_n rfl rfl rfl).trans ?_
      refine (r_aload_n rfl rfl rfl).trans ?_
      refine (r_getR (ci := 4) (sl := 0) s_E rfl rfl rfl h0.2.1 h0.1 h0.2.2.1 (n81 h0.2.1 (by decide))).trans ?_
      refine (r_alen (v := Int32.ofNat c_h0) rfl rfl h0.2.2.2 (ne9 (Nat.le_succ_of_le h0.1)) (by decide) rfl).trans ?_
      refine (r_icmp_ge rfl rfl rfl).trans ?_
      refine Eq.trans (ite_congr rfl (fun h_2 => ?_) (fun h_2 => ?_)) q_i
      · refine (r_aload_n rfl rfl rfl).trans ?_
        refine (r_getR (ci := 4) (sl := 0) s_E rfl rfl rfl h0.2.1 h0.1 h0.2.2.1 (n81 h0.2.1 (by decide))).trans ?_
        refine (r_iload_n rfl rfl rfl).trans ?_
        refine (r_iald rfl rfl h0.2.2.2 (Nat.le_succ_of_le h0.1) (ixR (capB h0.2.2.2) h_0 h_2)).trans ?_
        refine (r_goto rfl rfl).trans ?_
        exact r_iret rfl rfl
      · refine (r_iconst (v := 0) rfl rfl rfl).trans ?_
        exact r_iret rfl rfl
    · refine (r_iconst (v := 0) rfl rfl rfl).trans ?_
      exact r_iret rfl rfl

def g_X4_change (ro : Nat → Nat → Int32) (r0 : Nat) (c_h0 : Nat) (x1 : Int32) (x2 : Int32) : Nat → Nat → Int32 := (if x1 < 0 then ro else (if x1 < (ro r0 1) then (if x1 < (Int32.ofNat c_h0) then (uI ro (r0 + 1) x1.toNatClampNeg x2) else ro) else ro))
theorem x_X4_change {d : Nat} {E : pEv} {ro : Nat → Nat → Int32} {Q : Option Value → pH → Prop} (s_E : oE E) {r0 c_h0 : Nat} (h0 : oRow r0 c_h0) {x1 : Int32} {x2 : Int32} : wX (d + 1) 58 [.ref r0, .int x1, .int x2] (mkH E ro) Q = Q none (mkH E (g_X4_change ro r0 c_h0 x1 x2)) := by
  show _ = Q none (mkH E (if x1 < 0 then ro else (if x1 < (ro r0 1) then (if x1 < (Int32.ofNat c_h0) then (uI ro (r0 + 1) x1.toNatClampNeg x2) else ro) else ro)))
  refine (wX_in rfl (by decide)).trans ?_
  show wG (d) 58 (0, [.ref r0, .int x1, .int x2], [], mkH E ro) Q = _
  refine (r_iload_n rfl rfl rfl).trans ?_
  refine (r_if_lt rfl rfl rfl).trans ?_
  refine Eq.trans (ite_congr rfl (fun h_0 => ?_) (fun h_0 => ?_)) q_v
  · exact r_vret rfl rfl
  · refine (r_iload_n rfl rfl rfl).trans ?_
    refine (r_aload_n rfl rfl rfl).trans ?_
    refine (r_getI (ci := 4) (sl := 1) rfl rfl rfl h0.2.1 h0.1).trans ?_
    refine (r_icmp_ge rfl rfl rfl).trans ?_
    refine Eq.trans (ite_congr rfl (fun h_1 => ?_) (fun h_1 => ?_)) q_v
    · refine (r_iload_n rfl rfl rfl).trans ?_
      refine (r_aload_n rfl rfl rfl).trans ?_
      refine (r_getR (ci := 4) (sl := 0) s_E rfl rfl rfl h0.2.1 h0.1 h0.2.2.1 (n81 h0.2.1 (by decide))).trans ?_
      refine (r_alen (v := Int32.ofNat c_h0) rfl rfl h0.2.2.2 (ne9 (Nat.le_succ_of_le h0.1)) (by decide) rfl).trans ?_
      refine (r_icmp_ge rfl rfl rfl).trans ?_
      refine Eq.trans (ite_congr rfl (fun h_2 => ?_) (fun h_2 => ?_)) q_v
      · refine (r_aload_n rfl rfl rfl).trans ?_
        refine (r_getR (ci := 4) (sl := 0) s_E rfl rfl rfl h0.2.1 h0.1 h0.2.2.1 (n81 h0.2.1 (by decide))).trans ?_
        refine (r_iload_n rfl rfl rfl).trans ?_
        refine (r_iload_n rfl rfl rfl).trans ?_
        refine (r_iast rfl rfl h0.2.2.2 (Nat.le_succ_of_le h0.1) (ixR (capB h0.2.2.2) h_0 h_2)).trans ?_
        exact r_vret rfl rfl
      · exact r_vret rfl rfl
    · exact r_vret rfl rfl

def g_X4_add (ro : Nat → Nat → Int32) (r0 : Nat) (c_h0 : Nat) (x1 : Int32) : Nat → Nat → Int32 := (if (ro r0 1) < 0 then ro else (if (ro r0 1) < (Int32.ofNat c_h0) then (uI (uI ro (r0 + 1) (ro r0 1).toNatClampNeg x1) r0 1 (((uI ro (r0 + 1) (ro r0 1).toNatClampNeg x1) r0 1) + 1)) else ro))
theorem x_X4_add {d : Nat} {E : pEv} {ro : Nat → Nat → Int32} {Q : Option Value → pH → Prop} (s_E : oE E) {r0 c_h0 : Nat} (h0 : oRow r0 c_h0) {x1 : Int32} : wX (d + 1) 59 [.ref r0, .int x1] (mkH E ro) Q = Q none (mkH E (g_X4_add ro r0 c_h0 x1)) := by
  show _ = Q none (mkH E (if (ro r0 1) < 0 then ro else (if (ro r0 1) < (Int32.ofNat c_h0) then (uI (uI ro (r0 + 1) (ro r0 1).toNatClampNeg x1) r0 1 (((uI ro (r0 + 1) (ro r0 1).toNatClampNeg x1) r0 1) + 1)) else ro)))
  refine (wX_in rfl (by decide)).trans ?_
  show wG (d) 59 (0, [.ref r0, .int x1], [], mkH E ro) Q = _
  refine (r_aload_n rfl rfl rfl).trans ?_
  refine (r_getI (ci := 4) (sl := 1) rfl rfl rfl h0.2.1 h0.1).trans ?_
  refine (r_if_lt rfl rfl rfl).trans ?_
  refine Eq.trans (ite_congr rfl (fun h_0 => ?_) (fun h_0 => ?_)) q_v
  · exact r_vret rfl rfl
  · refine (r_aload_n rfl rfl rfl).trans ?_
    refine (r_getI (ci := 4) (sl := 1) rfl rfl rfl h0.2.1 h0.1).trans ?_
    refine (r_aload_n rfl rfl rfl).trans ?_
    refine (r_getR (ci := 4) (sl := 0) s_E rfl rfl rfl h0.2.1 h0.1 h0.2.2.1 (n81 h0.2.1 (by decide))).trans ?_
    refine (r_alen (v := Int32.ofNat c_h0) rfl rfl h0.2.2.2 (ne9 (Nat.le_succ_of_le h0.1)) (by decide) rfl).trans ?_
    refine (r_icmp_ge rfl rfl rfl).trans ?_
    refine Eq.trans (ite_congr rfl (fun h_1 => ?_) (fun h_1 => ?_)) q_v
    · refine (r_aload_n rfl rfl rfl).trans ?_
      refine (r_getR (ci := 4) (sl := 0) s_E rfl rfl rfl h0.2.1 h0.1 h0.2.2.1 (n81 h0.2.1 (by decide))).trans ?_
      refine (r_aload_n rfl rfl rfl).trans ?_
      refine (r_getI (ci := 4) (sl := 1) rfl rfl rfl h0.2.1 h0.1).trans ?_
      refine (r_iload_n rfl rfl rfl).trans ?_
      refine (r_iast rfl rfl h0.2.2.2 (Nat.le_succ_of_le h0.1) (ixR (capB h0.2.2.2) h_0 h_1)).trans ?_
      refine (r_aload_n rfl rfl rfl).trans ?_
      refine (r_dupR rfl rfl).trans ?_
      refine (r_getI (ci := 4) (sl := 1) rfl rfl rfl h0.2.1 h0.1).trans ?_
      refine (r_iconst (v := 1) rfl rfl rfl).trans ?_
      refine (r_iadd rfl rfl).trans ?_
      refine (r_putI (ci := 4) (sl := 1) rfl rfl rfl h0.2.1 h0.1).trans ?_
      exact r_vret rfl rfl
    · exact r_vret rfl rfl

def f_X4_takeLast (ro : Nat → Nat → Int32) (r0 : Nat) (c_h0 : Nat) : Int32 := (if (ro r0 1) < 1 then 0 else (if (Int32.ofNat c_h0) < (ro r0 1) then 0 else (uI ro r0 1 ((ro r0 1) - 1)) (r0 + 1) ((uI ro r0 1 ((ro r0 1) - 1)) r0 1).toNatClampNeg))
def g_X4_takeLast (ro : Nat → Nat → Int32) (r0 : Nat) (c_h0 : Nat) : Nat → Nat → Int32 := (if (ro r0 1) < 1 then ro else (if (Int32.ofNat c_h0) < (ro r0 1) then ro else (uI ro r0 1 ((ro r0 1) - 1))))
theorem x_X4_takeLast {d : Nat} {E : pEv} {ro : Nat → Nat → Int32} {Q : Option Value → pH → Prop} (s_E : oE E) {r0 c_h0 : Nat} (h0 : oRow r0 c_h0) (b0 : (¬ (ro r0 1) < 1) → (¬ (Int32.ofNat c_h0) < (ro r0 1)) → (¬ ((uI ro r0 1 ((ro r0 1) - 1)) r0 1) < 0 ∧ ((uI ro r0 1 ((ro r0 1) - 1)) r0 1).toNatClampNeg < c_h0)) : wX (d + 1) 60 [.ref r0] (mkH E ro) Q = Q (some (.int (f_X4_takeLast ro r0 c_h0))) (mkH E (g_X4_takeLast ro r0 c_h0)) := by
  show _ = Q (some (.int (if (ro r0 1) < 1 then 0 else (if (Int32.ofNat c_h0) < (ro r0 1) then 0 else (uI ro r0 1 ((ro r0 1) - 1)) (r0 + 1) ((uI ro r0 1 ((ro r0 1) - 1)) r0 1).toNatClampNeg)))) (mkH E (if (ro r0 1) < 1 then ro else (if (Int32.ofNat c_h0) < (ro r0 1) then ro else (uI ro r0 1 ((ro r0 1) - 1)))))
  refine (wX_in rfl (by decide)).trans ?_
  show wG (d) 60 (0, [.ref r0], [], mkH E ro) Q = _
  refine (r_aload_n rfl rfl rfl).trans ?_
  refine (r_getI (ci := 4) (sl := 1) rfl rfl rfl h0.2.1 h0.1).trans ?_
  refine (r_iconst (v := 1) rfl rfl rfl).trans ?_
  refine (r_icmp_lt rfl rfl rfl).trans ?_
  refine Eq.trans (ite_congr rfl (fun h_0 => ?_) (fun h_0 => ?_)) q_is
  · refine (r_iconst (v := 0) rfl rfl rfl).trans ?_
    exact r_iret rfl rfl
  · refine (r_aload_n rfl rfl rfl).trans ?_
    refine (r_getI (ci := 4) (sl := 1) rfl rfl rfl h0.2.1 h0.1).trans ?_
    refine (r_aload_n rfl rfl rfl).trans ?_
    refine (r_getR (ci := 4) (sl := 0) s_E rfl rfl rfl h0.2.1 h0.1 h0.2.2.1 (n81 h0.2.1 (by decide))).trans ?_
    refine (r_alen (v := Int32.ofNat c_h0) rfl rfl h0.2.2.2 (ne9 (Nat.le_succ_of_le h0.1)) (by decide) rfl).trans ?_
    refine (r_icmp_le rfl rfl rfl).trans ?_
    refine Eq.trans (ite_congr rfl (fun h_1 => ?_) (fun h_1 => ?_)) q_is
    · refine (r_iconst (v := 0) rfl rfl rfl).trans ?_
      exact r_iret rfl rfl
    · refine (r_aload_n rfl rfl rfl).trans ?_
      refine (r_dupR rfl rfl).trans ?_
      refine (r_getI (ci := 4) (sl := 1) rfl rfl rfl h0.2.1 h0.1).trans ?_
      refine (r_iconst (v := 1) rfl rfl rfl).trans ?_
      refine (r_isub rfl rfl).trans ?_
      refine (r_putI (ci := 4) (sl := 1) rfl rfl rfl h0.2.1 h0.1).trans ?_
      refine (r_aload_n rfl rfl rfl).trans ?_
      refine (r_getR (ci := 4) (sl := 0) s_E rfl rfl rfl h0.2.1 h0.1 h0.2.2.1 (n81 h0.2.1 (by decide))).trans ?_
      refine (r_aload_n rfl rfl rfl).trans ?_
      refine (r_getI (ci := 4) (sl := 1) rfl rfl rfl h0.2.1 h0.1).trans ?_
      refine (r_iald rfl rfl h0.2.2.2 (Nat.le_succ_of_le h0.1) (b0 h_0 h_1)).trans ?_
      exact r_iret rfl rfl
theorem y_X4_takeLast {d : Nat} {E : pEv} {ro : Nat → Nat → Int32} {Q : Option Value → pH → Prop} (s_E : oE E) {r0 c_h0 : Nat} (h0 : oRow r0 c_h0) : wX (d + 1) 60 [.ref r0] (mkH E ro) Q = Q (some (.int (f_X4_takeLast ro r0 c_h0))) (mkH E (g_X4_takeLast ro r0 c_h0)) := by
  refine x_X4_takeLast s_E h0 (fun h1 h2 => ?_)
  have hc := capB h0.2.2.2
  have e : (uI ro r0 1 ((ro r0 1) - 1)) r0 1 = ro r0 1 - 1 := by unfold uI va_up upd; simp
  rw [e]
  have h3 : ¬ ro r0 1 < 0 := fun h => h1 (Int32.lt_iff_toInt_lt.mpr (by have := Int32.lt_iff_toInt_lt.mp h; simp at this ⊢; omega))
  obtain ⟨j, hj, q⟩ := nI_of h3
  rw [q] at h1 h2 ⊢
  have h4 : j ≤ c_h0 := (nI_leI hj (by omega)).mp (Int32.not_lt.mp h2)
  have h5 : ¬ j < 1 := fun h => h1 ((nI_ltI hj (by decide)).mpr h)
  obtain ⟨i, rfl⟩ : ∃ i, j = i + 1 := ⟨j - 1, by omega⟩
  rw [nI_pred, nI_clamp (by omega)]
  exact ⟨nI_pos (by omega), by omega⟩

def g_X4_swap (ro : Nat → Nat → Int32) (r0 : Nat) (c_h0 : Nat) (x1 : Int32) (x2 : Int32) : Nat → Nat → Int32 := (g_X4_change (g_X4_change ro r0 c_h0 x1 (f_X4_at ro r0 c_h0 x2)) r0 c_h0 x2 (f_X4_at ro r0 c_h0 x1))
theorem x_X4_swap {d : Nat} {E : pEv} {ro : Nat → Nat → Int32} {Q : Option Value → pH → Prop} (s_E : oE E) {r0 c_h0 : Nat} (h0 : oRow r0 c_h0) {x1 : Int32} {x2 : Int32} : wX (d + 2) 64 [.ref r0, .int x1, .int x2] (mkH E ro) Q = Q none (mkH E (g_X4_swap ro r0 c_h0 x1 x2)) := by
  show _ = Q none (mkH E (g_X4_change (g_X4_change ro r0 c_h0 x1 (f_X4_at ro r0 c_h0 x2)) r0 c_h0 x2 (f_X4_at ro r0 c_h0 x1)))
  refine (wX_in rfl (by decide)).trans ?_
  show wG (d + 1) 64 (0, [.ref r0, .int x1, .int x2, .retAddr 0], [], mkH E ro) Q = _
  refine (r_aload_n rfl rfl rfl).trans ?_
  refine (r_iload_n rfl rfl rfl).trans ?_
  refine (r_inv (m := 57) (c := 4) rfl rfl rfl rfl rfl rfl h0.2.1 rfl).trans ?_
  refine (x_X4_at (d := d) s_E h0).trans ?_
  show wG (d + 1) 64 (5, [.ref r0, .int x1, .int x2, .retAddr 0], [.int (f_X4_at ro r0 c_h0 x1)], mkH E ro) Q = _
  refine (r_istore_n rfl rfl rfl rfl).trans ?_
  refine (r_aload_n rfl rfl rfl).trans ?_
  refine (r_iload_n rfl rfl rfl).trans ?_
  refine (r_aload_n rfl rfl rfl).trans ?_
  refine (r_iload_n rfl rfl rfl).trans ?_
  refine (r_inv (m := 57) (c := 4) rfl rfl rfl rfl rfl rfl h0.2.1 rfl).trans ?_
  refine (x_X4_at (d := d) s_E h0).trans ?_
  show wG (d + 1) 64 (13, [.ref r0, .int x1, .int x2, .int (f_X4_at ro r0 c_h0 x1)], [.int (f_X4_at ro r0 c_h0 x2), .int x1, .ref r0], mkH E ro) Q = _
  refine (r_inv (m := 58) (c := 4) rfl rfl rfl rfl rfl rfl h0.2.1 rfl).trans ?_
  refine (x_X4_change (d := d) s_E h0).trans ?_
  show wG (d + 1) 64 (16, [.ref r0, .int x1, .int x2, .int (f_X4_at ro r0 c_h0 x1)], [], mkH E (g_X4_change ro r0 c_h0 x1 (f_X4_at ro r0 c_h0 x2))) Q = _
  refine (r_aload_n rfl rfl rfl).trans ?_
  refine (r_iload_n rfl rfl rfl).trans ?_
  refine (r_iload_n rfl rfl rfl).trans ?_
  refine (r_inv (m := 58) (c := 4) rfl rfl rfl rfl rfl rfl h0.2.1 rfl).trans ?_
  refine (x_X4_change (d := d) s_E h0).trans ?_
  show wG (d + 1) 64 (22, [.ref r0, .int x1, .int x2, .int (f_X4_at ro r0 c_h0 x1)], [], mkH E (g_X4_change (g_X4_change ro r0 c_h0 x1 (f_X4_at ro r0 c_h0 x2)) r0 c_h0 x2 (f_X4_at ro r0 c_h0 x1))) Q = _
  exact r_vret rfl rfl

def g_X4_clear (ro : Nat → Nat → Int32) (r0 : Nat) (c_h0 : Nat) : Nat → Nat → Int32 := (uI ro r0 1 0)
theorem x_X4_clear {d : Nat} {E : pEv} {ro : Nat → Nat → Int32} {Q : Option Value → pH → Prop} (s_E : oE E) {r0 c_h0 : Nat} (h0 : oRow r0 c_h0) : wX (d + 1) 66 [.ref r0] (mkH E ro) Q = Q none (mkH E (g_X4_clear ro r0 c_h0)) := by
  show _ = Q none (mkH E (uI ro r0 1 0))
  refine (wX_in rfl (by decide)).trans ?_
  show wG (d) 66 (0, [.ref r0], [], mkH E ro) Q = _
  refine (r_aload_n rfl rfl rfl).trans ?_
  refine (r_iconst (v := 0) rfl rfl rfl).trans ?_
  refine (r_putI (ci := 4) (sl := 1) rfl rfl rfl h0.2.1 h0.1).trans ?_
  exact r_vret rfl rfl

def f_X4_spans (ro : Nat → Nat → Int32) (r0 : Nat) (c_h0 : Nat) (x1 : Int32) (x2 : Int32) : Int32 := (if x2 < 0 then 0 else (if x1 < 0 then 0 else (if ((ro r0 1) - x2) < x1 then 0 else 1)))
theorem x_X4_spans {d : Nat} {E : pEv} {ro : Nat → Nat → Int32} {Q : Option Value → pH → Prop} (s_E : oE E) {r0 c_h0 : Nat} (h0 : oRow r0 c_h0) {x1 : Int32} {x2 : Int32} : wX (d + 1) 70 [.ref r0, .int x1, .int x2] (mkH E ro) Q = Q (some (.int (f_X4_spans ro r0 c_h0 x1 x2))) (mkH E ro) := by
  show _ = Q (some (.int (if x2 < 0 then 0 else (if x1 < 0 then 0 else (if ((ro r0 1) - x2) < x1 then 0 else 1))))) (mkH E ro)
  refine (wX_in rfl (by decide)).trans ?_
  show wG (d) 70 (0, [.ref r0, .int x1, .int x2], [], mkH E ro) Q = _
  refine (r_iload_n rfl rfl rfl).trans ?_
  refine (r_if_lt rfl rfl rfl).trans ?_
  refine Eq.trans (ite_congr rfl (fun h_0 => ?_) (fun h_0 => ?_)) q_i
  · refine (r_iconst (v := 0) rfl rfl rfl).trans ?_
    exact r_zret rfl rfl rfl
  · refine (r_iload_n rfl rfl rfl).trans ?_
    refine (r_if_lt rfl rfl rfl).trans ?_
    refine Eq.trans (ite_congr rfl (fun h_1 => ?_) (fun h_1 => ?_)) q_i
    · refine (r_iconst (v := 0) rfl rfl rfl).trans ?_
      exact r_zret rfl rfl rfl
    · refine (r_iload_n rfl rfl rfl).trans ?_
      refine (r_aload_n rfl rfl rfl).trans ?_
      refine (r_getI (ci := 4) (sl := 1) rfl rfl rfl h0.2.1 h0.1).trans ?_
      refine (r_iload_n rfl rfl rfl).trans ?_
      refine (r_isub rfl rfl).trans ?_
      refine (r_icmp_gt rfl rfl rfl).trans ?_
      refine Eq.trans (ite_congr rfl (fun h_2 => ?_) (fun h_2 => ?_)) q_i
      · refine (r_iconst (v := 0) rfl rfl rfl).trans ?_
        exact r_zret rfl rfl rfl
      · refine (r_iconst (v := 1) rfl rfl rfl).trans ?_
        refine (r_goto rfl rfl).trans ?_
        exact r_zret rfl rfl rfl
theorem z_X4_spans {ro : Nat → Nat → Int32} {r0 : Nat} {c_h0 : Nat} {x1 : Int32} {x2 : Int32} : narrow .boolean (.int (f_X4_spans ro r0 c_h0 x1 x2)) = .int (f_X4_spans ro r0 c_h0 x1 x2) := by
  unfold f_X4_spans
  (repeat' split) <;> first | rfl

def g_X5_carry (ro : Nat → Nat → Int32) (r0 : Nat) (x1 : Int32) (x2 : Int32) (x3 : Int32) : Nat → Nat → Int32 := (uI (uI (uI ro r0 6 x1) r0 7 x2) r0 8 x3)
theorem x_X5_carry {d : Nat} {E : pEv} {ro : Nat → Nat → Int32} {Q : Option Value → pH → Prop} (s_E : oE E) {r0 : Nat} (h0 : oScene r0) {x1 : Int32} {x2 : Int32} {x3 : Int32} : wX (d + 1) 74 [.ref r0, .int x1, .int x2, .int x3] (mkH E ro) Q = Q none (mkH E (g_X5_carry ro r0 x1 x2 x3)) := by
  show _ = Q none (mkH E (uI (uI (uI ro r0 6 x1) r0 7 x2) r0 8 x3))
  refine (wX_in rfl (by decide)).trans ?_
  show wG (d) 74 (0, [.ref r0, .int x1, .int x2, .int x3], [], mkH E ro) Q = _
  refine (r_aload_n rfl rfl rfl).trans ?_
  refine (r_iload_n rfl rfl rfl).trans ?_
  refine (r_putI (ci := 5) (sl := 6) rfl rfl rfl h0.2.1 h0.1).trans ?_
  refine (r_aload_n rfl rfl rfl).trans ?_
  refine (r_iload_n rfl rfl rfl).trans ?_
  refine (r_putI (ci := 5) (sl := 7) rfl rfl rfl h0.2.1 h0.1).trans ?_
  refine (r_aload_n rfl rfl rfl).trans ?_
  refine (r_iload_n rfl rfl rfl).trans ?_
  refine (r_putI (ci := 5) (sl := 8) rfl rfl rfl h0.2.1 h0.1).trans ?_
  exact r_vret rfl rfl

def f_X5_shock (ro : Nat → Nat → Int32) (r0 : Nat) : Int32 := (if (ro r0 1) = 2 then ro r0 2 else (if (ro r0 1) = 3 then 5 else (if (ro r0 1) = 4 then 0 else (if (ro r0 1) = 5 then ro r0 2 else (if (ro r0 1) = 6 then 5 + (ro r0 2) else 0)))))
theorem x_X5_shock {d : Nat} {E : pEv} {ro : Nat → Nat → Int32} {Q : Option Value → pH → Prop} (s_E : oE E) {r0 : Nat} (h0 : oScene r0) : wX (d + 1) 78 [.ref r0] (mkH E ro) Q = Q (some (.int (f_X5_shock ro r0))) (mkH E ro) := by
  show _ = Q (some (.int (if (ro r0 1) = 2 then ro r0 2 else (if (ro r0 1) = 3 then 5 else (if (ro r0 1) = 4 then 0 else (if (ro r0 1) = 5 then ro r0 2 else (if (ro r0 1) = 6 then 5 + (ro r0 2) else 0))))))) (mkH E ro)
  refine (wX_in rfl (by decide)).trans ?_
  show wG (d) 78 (0, [.ref r0], [], mkH E ro) Q = _
  refine (r_aload_n rfl rfl rfl).trans ?_
  refine (r_getI (ci := 5) (sl := 1) rfl rfl rfl h0.2.1 h0.1).trans ?_
  refine (r_sw (i := (50, 2, 6)) rfl rfl).trans ?_
  refine (r_swc (y := 2) rfl).trans ?_
  refine Eq.trans (ite_congr rfl (fun h_0 => ?_) (fun h_0 => ?_)) q_i
  · refine (r_aload_n rfl rfl rfl).trans ?_
    refine (r_getI (ci := 5) (sl := 2) rfl rfl rfl h0.2.1 h0.1).trans ?_
    exact r_iret rfl rfl
  · refine (r_swc (y := 3) rfl).trans ?_
    refine Eq.trans (ite_congr rfl (fun h_1 => ?_) (fun h_1 => ?_)) q_i
    · refine (r_iconst (v := 5) rfl rfl rfl).trans ?_
      exact r_iret rfl rfl
    · refine (r_swc (y := 4) rfl).trans ?_
      refine Eq.trans (ite_congr rfl (fun h_2 => ?_) (fun h_2 => ?_)) q_i
      · refine (r_iconst (v := 0) rfl rfl rfl).trans ?_
        exact r_iret rfl rfl
      · refine (r_swc (y := 5) rfl).trans ?_
        refine Eq.trans (ite_congr rfl (fun h_3 => ?_) (fun h_3 => ?_)) q_i
        · refine (r_aload_n rfl rfl rfl).trans ?_
          refine (r_getI (ci := 5) (sl := 2) rfl rfl rfl h0.2.1 h0.1).trans ?_
          exact r_iret rfl rfl
        · refine (r_swc (y := 6) rfl).trans ?_
          refine Eq.trans (ite_congr rfl (fun h_4 => ?_) (fun h_4 => ?_)) q_i
          · refine (r_iconst (v := 5) rfl rfl rfl).trans ?_
            refine (r_aload_n rfl rfl rfl).trans ?_
            refine (r_getI (ci := 5) (sl := 2) rfl rfl rfl h0.2.1 h0.1).trans ?_
            refine (r_iadd rfl rfl).trans ?_
            exact r_iret rfl rfl
          · refine r_swn.trans ?_
            refine (r_iconst (v := 0) rfl rfl rfl).trans ?_
            exact r_iret rfl rfl

def f_X5_beginsAt (ro : Nat → Nat → Int32) (r0 : Nat) (x1 : Int32) : Int32 := (if x1 = 1 then ro r0 8 else ro r0 7)
theorem x_X5_beginsAt {d : Nat} {E : pEv} {ro : Nat → Nat → Int32} {Q : Option Value → pH → Prop} (s_E : oE E) {r0 : Nat} (h0 : oScene r0) {x1 : Int32} : wX (d + 1) 80 [.ref r0, .int x1] (mkH E ro) Q = Q (some (.int (f_X5_beginsAt ro r0 x1))) (mkH E ro) := by
  show _ = Q (some (.int (if x1 = 1 then ro r0 8 else ro r0 7))) (mkH E ro)
  refine (wX_in rfl (by decide)).trans ?_
  show wG (d) 80 (0, [.ref r0, .int x1], [], mkH E ro) Q = _
  refine (r_iload_n rfl rfl rfl).trans ?_
  refine (r_iconst (v := 1) rfl rfl rfl).trans ?_
  refine (r_icmp_ne rfl rfl rfl).trans ?_
  refine Eq.trans (ite_congr rfl (fun h_0 => ?_) (fun h_0 => ?_)) q_i
  · refine (r_aload_n rfl rfl rfl).trans ?_
    refine (r_getI (ci := 5) (sl := 8) rfl rfl rfl h0.2.1 h0.1).trans ?_
    refine (r_goto rfl rfl).trans ?_
    exact r_iret rfl rfl
  · refine (r_aload_n rfl rfl rfl).trans ?_
    refine (r_getI (ci := 5) (sl := 7) rfl rfl rfl h0.2.1 h0.1).trans ?_
    exact r_iret rfl rfl

def f_X5_endsAt (ro : Nat → Nat → Int32) (r0 : Nat) (x1 : Int32) : Int32 := (if x1 = 1 then ro r0 7 else ro r0 8)
theorem x_X5_endsAt {d : Nat} {E : pEv} {ro : Nat → Nat → Int32} {Q : Option Value → pH → Prop} (s_E : oE E) {r0 : Nat} (h0 : oScene r0) {x1 : Int32} : wX (d + 1) 81 [.ref r0, .int x1] (mkH E ro) Q = Q (some (.int (f_X5_endsAt ro r0 x1))) (mkH E ro) := by
  show _ = Q (some (.int (if x1 = 1 then ro r0 7 else ro r0 8))) (mkH E ro)
  refine (wX_in rfl (by decide)).trans ?_
  show wG (d) 81 (0, [.ref r0, .int x1], [], mkH E ro) Q = _
  refine (r_iload_n rfl rfl rfl).trans ?_
  refine (r_iconst (v := 1) rfl rfl rfl).trans ?_
  refine (r_icmp_ne rfl rfl rfl).trans ?_
  refine Eq.trans (ite_congr rfl (fun h_0 => ?_) (fun h_0 => ?_)) q_i
  · refine (r_aload_n rfl rfl rfl).trans ?_
    refine (r_getI (ci := 5) (sl := 7) rfl rfl rfl h0.2.1 h0.1).trans ?_
    refine (r_goto rfl rfl).trans ?_
    exact r_iret rfl rfl
  · refine (r_aload_n rfl rfl rfl).trans ?_
    refine (r_getI (ci := 5) (sl := 8) rfl rfl rfl h0.2.1 h0.1).trans ?_
    exact r_iret rfl rfl

def g_X5_copyFrom (ro : Nat → Nat → Int32) (r0 : Nat) (r1 : Nat) : Nat → Nat → Int32 := (uI (uI (uI (uI (uI (uI (uI (uI (uI ro r0 1 (ro r1 1)) r0 2 ((uI ro r0 1 (ro r1 1)) r1 2)) r0 3 ((uI (uI ro r0 1 (ro r1 1)) r0 2 ((uI ro r0 1 (ro r1 1)) r1 2)) r1 3)) r0 4 ((uI (uI (uI ro r0 1 (ro r1 1)) r0 2 ((uI ro r0 1 (ro r1 1)) r1 2)) r0 3 ((uI (uI ro r0 1 (ro r1 1)) r0 2 ((uI ro r0 1 (ro r1 1)) r1 2)) r1 3)) r1 4)) r0 5 ((uI (uI (uI (uI ro r0 1 (ro r1 1)) r0 2 ((uI ro r0 1 (ro r1 1)) r1 2)) r0 3 ((uI (uI ro r0 1 (ro r1 1)) r0 2 ((uI ro r0 1 (ro r1 1)) r1 2)) r1 3)) r0 4 ((uI (uI (uI ro r0 1 (ro r1 1)) r0 2 ((uI ro r0 1 (ro r1 1)) r1 2)) r0 3 ((uI (uI ro r0 1 (ro r1 1)) r0 2 ((uI ro r0 1 (ro r1 1)) r1 2)) r1 3)) r1 4)) r1 5)) r0 6 ((uI (uI (uI (uI (uI ro r0 1 (ro r1 1)) r0 2 ((uI ro r0 1 (ro r1 1)) r1 2)) r0 3 ((uI (uI ro r0 1 (ro r1 1)) r0 2 ((uI ro r0 1 (ro r1 1)) r1 2)) r1 3)) r0 4 ((uI (uI (uI ro r0 1 (ro r1 1)) r0 2 ((uI ro r0 1 (ro r1 1)) r1 2)) r0 3 ((uI (uI ro r0 1 (ro r1 1)) r0 2 ((uI ro r0 1 (ro r1 1)) r1 2)) r1 3)) r1 4)) r0 5 ((uI (uI (uI (uI ro r0 1 (ro r1 1)) r0 2 ((uI ro r0 1 (ro r1 1)) r1 2)) r0 3 ((uI (uI ro r0 1 (ro r1 1)) r0 2 ((uI ro r0 1 (ro r1 1)) r1 2)) r1 3)) r0 4 ((uI (uI (uI ro r0 1 (ro r1 1)) r0 2 ((uI ro r0 1 (ro r1 1)) r1 2)) r0 3 ((uI (uI ro r0 1 (ro r1 1)) r0 2 ((uI ro r0 1 (ro r1 1)) r1 2)) r1 3)) r1 4)) r1 5)) r1 6)) r0 7 ((uI (uI (uI (uI (uI (uI ro r0 1 (ro r1 1)) r0 2 ((uI ro r0 1 (ro r1 1)) r1 2)) r0 3 ((uI (uI ro r0 1 (ro r1 1)) r0 2 ((uI ro r0 1 (ro r1 1)) r1 2)) r1 3)) r0 4 ((uI (uI (uI ro r0 1 (ro r1 1)) r0 2 ((uI ro r0 1 (ro r1 1)) r1 2)) r0 3 ((uI (uI ro r0 1 (ro r1 1)) r0 2 ((uI ro r0 1 (ro r1 1)) r1 2)) r1 3)) r1 4)) r0 5 ((uI (uI (uI (uI ro r0 1 (ro r1 1)) r0 2 ((uI ro r0 1 (ro r1 1)) r1 2)) r0 3 ((uI (uI ro r0 1 (ro r1 1)) r0 2 ((uI ro r0 1 (ro r1 1)) r1 2)) r1 3)) r0 4 ((uI (uI (uI ro r0 1 (ro r1 1)) r0 2 ((uI ro r0 1 (ro r1 1)) r1 2)) r0 3 ((uI (uI ro r0 1 (ro r1 1)) r0 2 ((uI ro r0 1 (ro r1 1)) r1 2)) r1 3)) r1 4)) r1 5)) r0 6 ((uI (uI (uI (uI (uI ro r0 1 (ro r1 1)) r0 2 ((uI ro r0 1 (ro r1 1)) r1 2)) r0 3 ((uI (uI ro r0 1 (ro r1 1)) r0 2 ((uI ro r0 1 (ro r1 1)) r1 2)) r1 3)) r0 4 ((uI (uI (uI ro r0 1 (ro r1 1)) r0 2 ((uI ro r0 1 (ro r1 1)) r1 2)) r0 3 ((uI (uI ro r0 1 (ro r1 1)) r0 2 ((uI ro r0 1 (ro r1 1)) r1 2)) r1 3)) r1 4)) r0 5 ((uI (uI (uI (uI ro r0 1 (ro r1 1)) r0 2 ((uI ro r0 1 (ro r1 1)) r1 2)) r0 3 ((uI (uI ro r0 1 (ro r1 1)) r0 2 ((uI ro r0 1 (ro r1 1)) r1 2)) r1 3)) r0 4 ((uI (uI (uI ro r0 1 (ro r1 1)) r0 2 ((uI ro r0 1 (ro r1 1)) r1 2)) r0 3 ((uI (uI ro r0 1 (ro r1 1)) r0 2 ((uI ro r0 1 (ro r1 1)) r1 2)) r1 3)) r1 4)) r1 5)) r1 6)) r1 7)) r0 8 ((uI (uI (uI (uI (uI (uI (uI ro r0 1 (ro r1 1)) r0 2 ((uI ro r0 1 (ro r1 1)) r1 2)) r0 3 ((uI (uI ro r0 1 (ro r1 1)) r0 2 ((uI ro r0 1 (ro r1 1)) r1 2)) r1 3)) r0 4 ((uI (uI (uI ro r0 1 (ro r1 1)) r0 2 ((uI ro r0 1 (ro r1 1)) r1 2)) r0 3 ((uI (uI ro r0 1 (ro r1 1)) r0 2 ((uI ro r0 1 (ro r1 1)) r1 2)) r1 3)) r1 4)) r0 5 ((uI (uI (uI (uI ro r0 1 (ro r1 1)) r0 2 ((uI ro r0 1 (ro r1 1)) r1 2)) r0 3 ((uI (uI ro r0 1 (ro r1 1)) r0 2 ((uI ro r0 1 (ro r1 1)) r1 2)) r1 3)) r0 4 ((uI (uI (uI ro r0 1 (ro r1 1)) r0 2 ((uI ro r0 1 (ro r1 1)) r1 2)) r0 3 ((uI (uI ro r0 1 (ro r1 1)) r0 2 ((uI ro r0 1 (ro r1 1)) r1 2)) r1 3)) r1 4)) r1 5)) r0 6 ((uI (uI (uI (uI (uI ro r0 1 (ro r1 1)) r0 2 ((uI ro r0 1 (ro r1 1)) r1 2)) r0 3 ((uI (uI ro r0 1 (ro r1 1)) r0 2 ((uI ro r0 1 (ro r1 1)) r1 2)) r1 3)) r0 4 ((uI (uI (uI ro r0 1 (ro r1 1)) r0 2 ((uI ro r0 1 (ro r1 1)) r1 2)) r0 3 ((uI (uI ro r0 1 (ro r1 1)) r0 2 ((uI ro r0 1 (ro r1 1)) r1 2)) r1 3)) r1 4)) r0 5 ((uI (uI (uI (uI ro r0 1 (ro r1 1)) r0 2 ((uI ro r0 1 (ro r1 1)) r1 2)) r0 3 ((uI (uI ro r0 1 (ro r1 1)) r0 2 ((uI ro r0 1 (ro r1 1)) r1 2)) r1 3)) r0 4 ((uI (uI (uI ro r0 1 (ro r1 1)) r0 2 ((uI ro r0 1 (ro r1 1)) r1 2)) r0 3 ((uI (uI ro r0 1 (ro r1 1)) r0 2 ((uI ro r0 1 (ro r1 1)) r1 2)) r1 3)) r1 4)) r1 5)) r1 6)) r0 7 ((uI (uI (uI (uI (uI (uI ro r0 1 (ro r1 1)) r0 2 ((uI ro r0 1 (ro r1 1)) r1 2)) r0 3 ((uI (uI ro r0 1 (ro r1 1)) r0 2 ((uI ro r0 1 (ro r1 1)) r1 2)) r1 3)) r0 4 ((uI (uI (uI ro r0 1 (ro r1 1)) r0 2 ((uI ro r0 1 (ro r1 1)) r1 2)) r0 3 ((uI (uI ro r0 1 (ro r1 1)) r0 2 ((uI ro r0 1 (ro r1 1)) r1 2)) r1 3)) r1 4)) r0 5 ((uI (uI (uI (uI ro r0 1 (ro r1 1)) r0 2 ((uI ro r0 1 (ro r1 1)) r1 2)) r0 3 ((uI (uI ro r0 1 (ro r1 1)) r0 2 ((uI ro r0 1 (ro r1 1)) r1 2)) r1 3)) r0 4 ((uI (uI (uI ro r0 1 (ro r1 1)) r0 2 ((uI ro r0 1 (ro r1 1)) r1 2)) r0 3 ((uI (uI ro r0 1 (ro r1 1)) r0 2 ((uI ro r0 1 (ro r1 1)) r1 2)) r1 3)) r1 4)) r1 5)) r0 6 ((uI (uI (uI (uI (uI ro r0 1 (ro r1 1)) r0 2 ((uI ro r0 1 (ro r1 1)) r1 2)) r0 3 ((uI (uI ro r0 1 (ro r1 1)) r0 2 ((uI ro r0 1 (ro r1 1)) r1 2)) r1 3)) r0 4 ((uI (uI (uI ro r0 1 (ro r1 1)) r0 2 ((uI ro r0 1 (ro r1 1)) r1 2)) r0 3 ((uI (uI ro r0 1 (ro r1 1)) r0 2 ((uI ro r0 1 (ro r1 1)) r1 2)) r1 3)) r1 4)) r0 5 ((uI (uI (uI (uI ro r0 1 (ro r1 1)) r0 2 ((uI ro r0 1 (ro r1 1)) r1 2)) r0 3 ((uI (uI ro r0 1 (ro r1 1)) r0 2 ((uI ro r0 1 (ro r1 1)) r1 2)) r1 3)) r0 4 ((uI (uI (uI ro r0 1 (ro r1 1)) r0 2 ((uI ro r0 1 (ro r1 1)) r1 2)) r0 3 ((uI (uI ro r0 1 (ro r1 1)) r0 2 ((uI ro r0 1 (ro r1 1)) r1 2)) r1 3)) r1 4)) r1 5)) r1 6)) r1 7)) r1 8)) r0 9 ((uI (uI (uI (uI (uI (uI (uI (uI ro r0 1 (ro r1 1)) r0 2 ((uI ro r0 1 (ro r1 1)) r1 2)) r0 3 ((uI (uI ro r0 1 (ro r1 1)) r0 2 ((uI ro r0 1 (ro r1 1)) r1 2)) r1 3)) r0 4 ((uI (uI (uI ro r0 1 (ro r1 1)) r0 2 ((uI ro r0 1 (ro r1 1)) r1 2)) r0 3 ((uI (uI ro r0 1 (ro r1 1)) r0 2 ((uI ro r0 1 (ro r1 1)) r1 2)) r1 3)) r1 4)) r0 5 ((uI (uI (uI (uI ro r0 1 (ro r1 1)) r0 2 ((uI ro r0 1 (ro r1 1)) r1 2)) r0 3 ((uI (uI ro r0 1 (ro r1 1)) r0 2 ((uI ro r0 1 (ro r1 1)) r1 2)) r1 3)) r0 4 ((uI (uI (uI ro r0 1 (ro r1 1)) r0 2 ((uI ro r0 1 (ro r1 1)) r1 2)) r0 3 ((uI (uI ro r0 1 (ro r1 1)) r0 2 ((uI ro r0 1 (ro r1 1)) r1 2)) r1 3)) r1 4)) r1 5)) r0 6 ((uI (uI (uI (uI (uI ro r0 1 (ro r1 1)) r0 2 ((uI ro r0 1 (ro r1 1)) r1 2)) r0 3 ((uI (uI ro r0 1 (ro r1 1)) r0 2 ((uI ro r0 1 (ro r1 1)) r1 2)) r1 3)) r0 4 ((uI (uI (uI ro r0 1 (ro r1 1)) r0 2 ((uI ro r0 1 (ro r1 1)) r1 2)) r0 3 ((uI (uI ro r0 1 (ro r1 1)) r0 2 ((uI ro r0 1 (ro r1 1)) r1 2)) r1 3)) r1 4)) r0 5 ((uI (uI (uI (uI ro r0 1 (ro r1 1)) r0 2 ((uI ro r0 1 (ro r1 1)) r1 2)) r0 3 ((uI (uI ro r0 1 (ro r1 1)) r0 2 ((uI ro r0 1 (ro r1 1)) r1 2)) r1 3)) r0 4 ((uI (uI (uI ro r0 1 (ro r1 1)) r0 2 ((uI ro r0 1 (ro r1 1)) r1 2)) r0 3 ((uI (uI ro r0 1 (ro r1 1)) r0 2 ((uI ro r0 1 (ro r1 1)) r1 2)) r1 3)) r1 4)) r1 5)) r1 6)) r0 7 ((uI (uI (uI (uI (uI (uI ro r0 1 (ro r1 1)) r0 2 ((uI ro r0 1 (ro r1 1)) r1 2)) r0 3 ((uI (uI ro r0 1 (ro r1 1)) r0 2 ((uI ro r0 1 (ro r1 1)) r1 2)) r1 3)) r0 4 ((uI (uI (uI ro r0 1 (ro r1 1)) r0 2 ((uI ro r0 1 (ro r1 1)) r1 2)) r0 3 ((uI (uI ro r0 1 (ro r1 1)) r0 2 ((uI ro r0 1 (ro r1 1)) r1 2)) r1 3)) r1 4)) r0 5 ((uI (uI (uI (uI ro r0 1 (ro r1 1)) r0 2 ((uI ro r0 1 (ro r1 1)) r1 2)) r0 3 ((uI (uI ro r0 1 (ro r1 1)) r0 2 ((uI ro r0 1 (ro r1 1)) r1 2)) r1 3)) r0 4 ((uI (uI (uI ro r0 1 (ro r1 1)) r0 2 ((uI ro r0 1 (ro r1 1)) r1 2)) r0 3 ((uI (uI ro r0 1 (ro r1 1)) r0 2 ((uI ro r0 1 (ro r1 1)) r1 2)) r1 3)) r1 4)) r1 5)) r0 6 ((uI (uI (uI (uI (uI ro r0 1 (ro r1 1)) r0 2 ((uI ro r0 1 (ro r1 1)) r1 2)) r0 3 ((uI (uI ro r0 1 (ro r1 1)) r0 2 ((uI ro r0 1 (ro r1 1)) r1 2)) r1 3)) r0 4 ((uI (uI (uI ro r0 1 (ro r1 1)) r0 2 ((uI ro r0 1 (ro r1 1)) r1 2)) r0 3 ((uI (uI ro r0 1 (ro r1 1)) r0 2 ((uI ro r0 1 (ro r1 1)) r1 2)) r1 3)) r1 4)) r0 5 ((uI (uI (uI (uI ro r0 1 (ro r1 1)) r0 2 ((uI ro r0 1 (ro r1 1)) r1 2)) r0 3 ((uI (uI ro r0 1 (ro r1 1)) r0 2 ((uI ro r0 1 (ro r1 1)) r1 2)) r1 3)) r0 4 ((uI (uI (uI ro r0 1 (ro r1 1)) r0 2 ((uI ro r0 1 (ro r1 1)) r1 2)) r0 3 ((uI (uI ro r0 1 (ro r1 1)) r0 2 ((uI ro r0 1 (ro r1 1)) r1 2)) r1 3)) r1 4)) r1 5)) r1 6)) r1 7)) r0 8 ((uI (uI (uI (uI (uI (uI (uI ro r0 1 (ro r1 1)) r0 2 ((uI ro r0 1 (ro r1 1)) r1 2)) r0 3 ((uI (uI ro r0 1 (ro r1 1)) r0 2 ((uI ro r0 1 (ro r1 1)) r1 2)) r1 3)) r0 4 ((uI (uI (uI ro r0 1 (ro r1 1)) r0 2 ((uI ro r0 1 (ro r1 1)) r1 2)) r0 3 ((uI (uI ro r0 1 (ro r1 1)) r0 2 ((uI ro r0 1 (ro r1 1)) r1 2)) r1 3)) r1 4)) r0 5 ((uI (uI (uI (uI ro r0 1 (ro r1 1)) r0 2 ((uI ro r0 1 (ro r1 1)) r1 2)) r0 3 ((uI (uI ro r0 1 (ro r1 1)) r0 2 ((uI ro r0 1 (ro r1 1)) r1 2)) r1 3)) r0 4 ((uI (uI (uI ro r0 1 (ro r1 1)) r0 2 ((uI ro r0 1 (ro r1 1)) r1 2)) r0 3 ((uI (uI ro r0 1 (ro r1 1)) r0 2 ((uI ro r0 1 (ro r1 1)) r1 2)) r1 3)) r1 4)) r1 5)) r0 6 ((uI (uI (uI (uI (uI ro r0 1 (ro r1 1)) r0 2 ((uI ro r0 1 (ro r1 1)) r1 2)) r0 3 ((uI (uI ro r0 1 (ro r1 1)) r0 2 ((uI ro r0 1 (ro r1 1)) r1 2)) r1 3)) r0 4 ((uI (uI (uI ro r0 1 (ro r1 1)) r0 2 ((uI ro r0 1 (ro r1 1)) r1 2)) r0 3 ((uI (uI ro r0 1 (ro r1 1)) r0 2 ((uI ro r0 1 (ro r1 1)) r1 2)) r1 3)) r1 4)) r0 5 ((uI (uI (uI (uI ro r0 1 (ro r1 1)) r0 2 ((uI ro r0 1 (ro r1 1)) r1 2)) r0 3 ((uI (uI ro r0 1 (ro r1 1)) r0 2 ((uI ro r0 1 (ro r1 1)) r1 2)) r1 3)) r0 4 ((uI (uI (uI ro r0 1 (ro r1 1)) r0 2 ((uI ro r0 1 (ro r1 1)) r1 2)) r0 3 ((uI (uI ro r0 1 (ro r1 1)) r0 2 ((uI ro r0 1 (ro r1 1)) r1 2)) r1 3)) r1 4)) r1 5)) r1 6)) r0 7 ((uI (uI (uI (uI (uI (uI ro r0 1 (ro r1 1)) r0 2 ((uI ro r0 1 (ro r1 1)) r1 2)) r0 3 ((uI (uI ro r0 1 (ro r1 1)) r0 2 ((uI ro r0 1 (ro r1 1)) r1 2)) r1 3)) r0 4 ((uI (uI (uI ro r0 1 (ro r1 1)) r0 2 ((uI ro r0 1 (ro r1 1)) r1 2)) r0 3 ((uI (uI ro r0 1 (ro r1 1)) r0 2 ((uI ro r0 1 (ro r1 1)) r1 2)) r1 3)) r1 4)) r0 5 ((uI (uI (uI (uI ro r0 1 (ro r1 1)) r0 2 ((uI ro r0 1 (ro r1 1)) r1 2)) r0 3 ((uI (uI ro r0 1 (ro r1 1)) r0 2 ((uI ro r0 1 (ro r1 1)) r1 2)) r1 3)) r0 4 ((uI (uI (uI ro r0 1 (ro r1 1)) r0 2 ((uI ro r0 1 (ro r1 1)) r1 2)) r0 3 ((uI (uI ro r0 1 (ro r1 1)) r0 2 ((uI ro r0 1 (ro r1 1)) r1 2)) r1 3)) r1 4)) r1 5)) r0 6 ((uI (uI (uI (uI (uI ro r0 1 (ro r1 1)) r0 2 ((uI ro r0 1 (ro r1 1)) r1 2)) r0 3 ((uI (uI ro r0 1 (ro r1 1)) r0 2 ((uI ro r0 1 (ro r1 1)) r1 2)) r1 3)) r0 4 ((uI (uI (uI ro r0 1 (ro r1 1)) r0 2 ((uI ro r0 1 (ro r1 1)) r1 2)) r0 3 ((uI (uI ro r0 1 (ro r1 1)) r0 2 ((uI ro r0 1 (ro r1 1)) r1 2)) r1 3)) r1 4)) r0 5 ((uI (uI (uI (uI ro r0 1 (ro r1 1)) r0 2 ((uI ro r0 1 (ro r1 1)) r1 2)) r0 3 ((uI (uI ro r0 1 (ro r1 1)) r0 2 ((uI ro r0 1 (ro r1 1)) r1 2)) r1 3)) r0 4 ((uI (uI (uI ro r0 1 (ro r1 1)) r0 2 ((uI ro r0 1 (ro r1 1)) r1 2)) r0 3 ((uI (uI ro r0 1 (ro r1 1)) r0 2 ((uI ro r0 1 (ro r1 1)) r1 2)) r1 3)) r1 4)) r1 5)) r1 6)) r1 7)) r1 8)) r1 9))
theorem x_X5_copyFrom {d : Nat} {E : pEv} {ro : Nat → Nat → Int32} {Q : Option Value → pH → Prop} (s_E : oE E) {r0 : Nat} (h0 : oScene r0) {r1 : Nat} (h1 : oScene r1) : wX (d + 1) 82 [.ref r0, .ref r1] (mkH E ro) Q = Q none (mkH E (g_X5_copyFrom ro r0 r1)) := by
  show _ = Q none (mkH E (uI (uI (uI (uI (uI (uI (uI (uI (uI ro r0 1 (ro r1 1)) r0 2 ((uI ro r0 1 (ro r1 1)) r1 2)) r0 3 ((uI (uI ro r0 1 (ro r1 1)) r0 2 ((uI ro r0 1 (ro r1 1)) r1 2)) r1 3)) r0 4 ((uI (uI (uI ro r0 1 (ro r1 1)) r0 2 ((uI ro r0 1 (ro r1 1)) r1 2)) r0 3 ((uI (uI ro r0 1 (ro r1 1)) r0 2 ((uI ro r0 1 (ro r1 1)) r1 2)) r1 3)) r1 4)) r0 5 ((uI (uI (uI (uI ro r0 1 (ro r1 1)) r0 2 ((uI ro r0 1 (ro r1 1)) r1 2)) r0 3 ((uI (uI ro r0 1 (ro r1 1)) r0 2 ((uI ro r0 1 (ro r1 1)) r1 2)) r1 3)) r0 4 ((uI (uI (uI ro r0 1 (ro r1 1)) r0 2 ((uI ro r0 1 (ro r1 1)) r1 2)) r0 3 ((uI (uI ro r0 1 (ro r1 1)) r0 2 ((uI ro r0 1 (ro r1 1)) r1 2)) r1 3)) r1 4)) r1 5)) r0 6 ((uI (uI (uI (uI (uI ro r0 1 (ro r1 1)) r0 2 ((uI ro r0 1 (ro r1 1)) r1 2)) r0 3 ((uI (uI ro r0 1 (ro r1 1)) r0 2 ((uI ro r0 1 (ro r1 1)) r1 2)) r1 3)) r0 4 ((uI (uI (uI ro r0 1 (ro r1 1)) r0 2 ((uI ro r0 1 (ro r1 1)) r1 2)) r0 3 ((uI (uI ro r0 1 (ro r1 1)) r0 2 ((uI ro r0 1 (ro r1 1)) r1 2)) r1 3)) r1 4)) r0 5 ((uI (uI (uI (uI ro r0 1 (ro r1 1)) r0 2 ((uI ro r0 1 (ro r1 1)) r1 2)) r0 3 ((uI (uI ro r0 1 (ro r1 1)) r0 2 ((uI ro r0 1 (ro r1 1)) r1 2)) r1 3)) r0 4 ((uI (uI (uI ro r0 1 (ro r1 1)) r0 2 ((uI ro r0 1 (ro r1 1)) r1 2)) r0 3 ((uI (uI ro r0 1 (ro r1 1)) r0 2 ((uI ro r0 1 (ro r1 1)) r1 2)) r1 3)) r1 4)) r1 5)) r1 6)) r0 7 ((uI (uI (uI (uI (uI (uI ro r0 1 (ro r1 1)) r0 2 ((uI ro r0 1 (ro r1 1)) r1 2)) r0 3 ((uI (uI ro r0 1 (ro r1 1)) r0 2 ((uI ro r0 1 (ro r1 1)) r1 2)) r1 3)) r0 4 ((uI (uI (uI ro r0 1 (ro r1 1)) r0 2 ((uI ro r0 1 (ro r1 1)) r1 2)) r0 3 ((uI (uI ro r0 1 (ro r1 1)) r0 2 ((uI ro r0 1 (ro r1 1)) r1 2)) r1 3)) r1 4)) r0 5 ((uI (uI (uI (uI ro r0 1 (ro r1 1)) r0 2 ((uI ro r0 1 (ro r1 1)) r1 2)) r0 3 ((uI (uI ro r0 1 (ro r1 1)) r0 2 ((uI ro r0 1 (ro r1 1)) r1 2)) r1 3)) r0 4 ((uI (uI (uI ro r0 1 (ro r1 1)) r0 2 ((uI ro r0 1 (ro r1 1)) r1 2)) r0 3 ((uI (uI ro r0 1 (ro r1 1)) r0 2 ((uI ro r0 1 (ro r1 1)) r1 2)) r1 3)) r1 4)) r1 5)) r0 6 ((uI (uI (uI (uI (uI ro r0 1 (ro r1 1)) r0 2 ((uI ro r0 1 (ro r1 1)) r1 2)) r0 3 ((uI (uI ro r0 1 (ro r1 1)) r0 2 ((uI ro r0 1 (ro r1 1)) r1 2)) r1 3)) r0 4 ((uI (uI (uI ro r0 1 (ro r1 1)) r0 2 ((uI ro r0 1 (ro r1 1)) r1 2)) r0 3 ((uI (uI ro r0 1 (ro r1 1)) r0 2 ((uI ro r0 1 (ro r1 1)) r1 2)) r1 3)) r1 4)) r0 5 ((uI (uI (uI (uI ro r0 1 (ro r1 1)) r0 2 ((uI ro r0 1 (ro r1 1)) r1 2)) r0 3 ((uI (uI ro r0 1 (ro r1 1)) r0 2 ((uI ro r0 1 (ro r1 1)) r1 2)) r1 3)) r0 4 ((uI (uI (uI ro r0 1 (ro r1 1)) r0 2 ((uI ro r0 1 (ro r1 1)) r1 2)) r0 3 ((uI (uI ro r0 1 (ro r1 1)) r0 2 ((uI ro r0 1 (ro r1 1)) r1 2)) r1 3)) r1 4)) r1 5)) r1 6)) r1 7)) r0 8 ((uI (uI (uI (uI (uI (uI (uI ro r0 1 (ro r1 1)) r0 2 ((uI ro r0 1 (ro r1 1)) r1 2)) r0 3 ((uI (uI ro r0 1 (ro r1 1)) r0 2 ((uI ro r0 1 (ro r1 1)) r1 2)) r1 3)) r0 4 ((uI (uI (uI ro r0 1 (ro r1 1)) r0 2 ((uI ro r0 1 (ro r1 1)) r1 2)) r0 3 ((uI (uI ro r0 1 (ro r1 1)) r0 2 ((uI ro r0 1 (ro r1 1)) r1 2)) r1 3)) r1 4)) r0 5 ((uI (uI (uI (uI ro r0 1 (ro r1 1)) r0 2 ((uI ro r0 1 (ro r1 1)) r1 2)) r0 3 ((uI (uI ro r0 1 (ro r1 1)) r0 2 ((uI ro r0 1 (ro r1 1)) r1 2)) r1 3)) r0 4 ((uI (uI (uI ro r0 1 (ro r1 1)) r0 2 ((uI ro r0 1 (ro r1 1)) r1 2)) r0 3 ((uI (uI ro r0 1 (ro r1 1)) r0 2 ((uI ro r0 1 (ro r1 1)) r1 2)) r1 3)) r1 4)) r1 5)) r0 6 ((uI (uI (uI (uI (uI ro r0 1 (ro r1 1)) r0 2 ((uI ro r0 1 (ro r1 1)) r1 2)) r0 3 ((uI (uI ro r0 1 (ro r1 1)) r0 2 ((uI ro r0 1 (ro r1 1)) r1 2)) r1 3)) r0 4 ((uI (uI (uI ro r0 1 (ro r1 1)) r0 2 ((uI ro r0 1 (ro r1 1)) r1 2)) r0 3 ((uI (uI ro r0 1 (ro r1 1)) r0 2 ((uI ro r0 1 (ro r1 1)) r1 2)) r1 3)) r1 4)) r0 5 ((uI (uI (uI (uI ro r0 1 (ro r1 1)) r0 2 ((uI ro r0 1 (ro r1 1)) r1 2)) r0 3 ((uI (uI ro r0 1 (ro r1 1)) r0 2 ((uI ro r0 1 (ro r1 1)) r1 2)) r1 3)) r0 4 ((uI (uI (uI ro r0 1 (ro r1 1)) r0 2 ((uI ro r0 1 (ro r1 1)) r1 2)) r0 3 ((uI (uI ro r0 1 (ro r1 1)) r0 2 ((uI ro r0 1 (ro r1 1)) r1 2)) r1 3)) r1 4)) r1 5)) r1 6)) r0 7 ((uI (uI (uI (uI (uI (uI ro r0 1 (ro r1 1)) r0 2 ((uI ro r0 1 (ro r1 1)) r1 2)) r0 3 ((uI (uI ro r0 1 (ro r1 1)) r0 2 ((uI ro r0 1 (ro r1 1)) r1 2)) r1 3)) r0 4 ((uI (uI (uI ro r0 1 (ro r1 1)) r0 2 ((uI ro r0 1 (ro r1 1)) r1 2)) r0 3 ((uI (uI ro r0 1 (ro r1 1)) r0 2 ((uI ro r0 1 (ro r1 1)) r1 2)) r1 3)) r1 4)) r0 5 ((uI (uI (uI (uI ro r0 1 (ro r1 1)) r0 2 ((uI ro r0 1 (ro r1 1)) r1 2)) r0 3 ((uI (uI ro r0 1 (ro r1 1)) r0 2 ((uI ro r0 1 (ro r1 1)) r1 2)) r1 3)) r0 4 ((uI (uI (uI ro r0 1 (ro r1 1)) r0 2 ((uI ro r0 1 (ro r1 1)) r1 2)) r0 3 ((uI (uI ro r0 1 (ro r1 1)) r0 2 ((uI ro r0 1 (ro r1 1)) r1 2)) r1 3)) r1 4)) r1 5)) r0 6 ((uI (uI (uI (uI (uI ro r0 1 (ro r1 1)) r0 2 ((uI ro r0 1 (ro r1 1)) r1 2)) r0 3 ((uI (uI ro r0 1 (ro r1 1)) r0 2 ((uI ro r0 1 (ro r1 1)) r1 2)) r1 3)) r0 4 ((uI (uI (uI ro r0 1 (ro r1 1)) r0 2 ((uI ro r0 1 (ro r1 1)) r1 2)) r0 3 ((uI (uI ro r0 1 (ro r1 1)) r0 2 ((uI ro r0 1 (ro r1 1)) r1 2)) r1 3)) r1 4)) r0 5 ((uI (uI (uI (uI ro r0 1 (ro r1 1)) r0 2 ((uI ro r0 1 (ro r1 1)) r1 2)) r0 3 ((uI (uI ro r0 1 (ro r1 1)) r0 2 ((uI ro r0 1 (ro r1 1)) r1 2)) r1 3)) r0 4 ((uI (uI (uI ro r0 1 (ro r1 1)) r0 2 ((uI ro r0 1 (ro r1 1)) r1 2)) r0 3 ((uI (uI ro r0 1 (ro r1 1)) r0 2 ((uI ro r0 1 (ro r1 1)) r1 2)) r1 3)) r1 4)) r1 5)) r1 6)) r1 7)) r1 8)) r0 9 ((uI (uI (uI (uI (uI (uI (uI (uI ro r0 1 (ro r1 1)) r0 2 ((uI ro r0 1 (ro r1 1)) r1 2)) r0 3 ((uI (uI ro r0 1 (ro r1 1)) r0 2 ((uI ro r0 1 (ro r1 1)) r1 2)) r1 3)) r0 4 ((uI (uI (uI ro r0 1 (ro r1 1)) r0 2 ((uI ro r0 1 (ro r1 1)) r1 2)) r0 3 ((uI (uI ro r0 1 (ro r1 1)) r0 2 ((uI ro r0 1 (ro r1 1)) r1 2)) r1 3)) r1 4)) r0 5 ((uI (uI (uI (uI ro r0 1 (ro r1 1)) r0 2 ((uI ro r0 1 (ro r1 1)) r1 2)) r0 3 ((uI (uI ro r0 1 (ro r1 1)) r0 2 ((uI ro r0 1 (ro r1 1)) r1 2)) r1 3)) r0 4 ((uI (uI (uI ro r0 1 (ro r1 1)) r0 2 ((uI ro r0 1 (ro r1 1)) r1 2)) r0 3 ((uI (uI ro r0 1 (ro r1 1)) r0 2 ((uI ro r0 1 (ro r1 1)) r1 2)) r1 3)) r1 4)) r1 5)) r0 6 ((uI (uI (uI (uI (uI ro r0 1 (ro r1 1)) r0 2 ((uI ro r0 1 (ro r1 1)) r1 2)) r0 3 ((uI (uI ro r0 1 (ro r1 1)) r0 2 ((uI ro r0 1 (ro r1 1)) r1 2)) r1 3)) r0 4 ((uI (uI (uI ro r0 1 (ro r1 1)) r0 2 ((uI ro r0 1 (ro r1 1)) r1 2)) r0 3 ((uI (uI ro r0 1 (ro r1 1)) r0 2 ((uI ro r0 1 (ro r1 1)) r1 2)) r1 3)) r1 4)) r0 5 ((uI (uI (uI (uI ro r0 1 (ro r1 1)) r0 2 ((uI ro r0 1 (ro r1 1)) r1 2)) r0 3 ((uI (uI ro r0 1 (ro r1 1)) r0 2 ((uI ro r0 1 (ro r1 1)) r1 2)) r1 3)) r0 4 ((uI (uI (uI ro r0 1 (ro r1 1)) r0 2 ((uI ro r0 1 (ro r1 1)) r1 2)) r0 3 ((uI (uI ro r0 1 (ro r1 1)) r0 2 ((uI ro r0 1 (ro r1 1)) r1 2)) r1 3)) r1 4)) r1 5)) r1 6)) r0 7 ((uI (uI (uI (uI (uI (uI ro r0 1 (ro r1 1)) r0 2 ((uI ro r0 1 (ro r1 1)) r1 2)) r0 3 ((uI (uI ro r0 1 (ro r1 1)) r0 2 ((uI ro r0 1 (ro r1 1)) r1 2)) r1 3)) r0 4 ((uI (uI (uI ro r0 1 (ro r1 1)) r0 2 ((uI ro r0 1 (ro r1 1)) r1 2)) r0 3 ((uI (uI ro r0 1 (ro r1 1)) r0 2 ((uI ro r0 1 (ro r1 1)) r1 2)) r1 3)) r1 4)) r0 5 ((uI (uI (uI (uI ro r0 1 (ro r1 1)) r0 2 ((uI ro r0 1 (ro r1 1)) r1 2)) r0 3 ((uI (uI ro r0 1 (ro r1 1)) r0 2 ((uI ro r0 1 (ro r1 1)) r1 2)) r1 3)) r0 4 ((uI (uI (uI ro r0 1 (ro r1 1)) r0 2 ((uI ro r0 1 (ro r1 1)) r1 2)) r0 3 ((uI (uI ro r0 1 (ro r1 1)) r0 2 ((uI ro r0 1 (ro r1 1)) r1 2)) r1 3)) r1 4)) r1 5)) r0 6 ((uI (uI (uI (uI (uI ro r0 1 (ro r1 1)) r0 2 ((uI ro r0 1 (ro r1 1)) r1 2)) r0 3 ((uI (uI ro r0 1 (ro r1 1)) r0 2 ((uI ro r0 1 (ro r1 1)) r1 2)) r1 3)) r0 4 ((uI (uI (uI ro r0 1 (ro r1 1)) r0 2 ((uI ro r0 1 (ro r1 1)) r1 2)) r0 3 ((uI (uI ro r0 1 (ro r1 1)) r0 2 ((uI ro r0 1 (ro r1 1)) r1 2)) r1 3)) r1 4)) r0 5 ((uI (uI (uI (uI ro r0 1 (ro r1 1)) r0 2 ((uI ro r0 1 (ro r1 1)) r1 2)) r0 3 ((uI (uI ro r0 1 (ro r1 1)) r0 2 ((uI ro r0 1 (ro r1 1)) r1 2)) r1 3)) r0 4 ((uI (uI (uI ro r0 1 (ro r1 1)) r0 2 ((uI ro r0 1 (ro r1 1)) r1 2)) r0 3 ((uI (uI ro r0 1 (ro r1 1)) r0 2 ((uI ro r0 1 (ro r1 1)) r1 2)) r1 3)) r1 4)) r1 5)) r1 6)) r1 7)) r0 8 ((uI (uI (uI (uI (uI (uI (uI ro r0 1 (ro r1 1)) r0 2 ((uI ro r0 1 (ro r1 1)) r1 2)) r0 3 ((uI (uI ro r0 1 (ro r1 1)) r0 2 ((uI ro r0 1 (ro r1 1)) r1 2)) r1 3)) r0 4 ((uI (uI (uI ro r0 1 (ro r1 1)) r0 2 ((uI ro r0 1 (ro r1 1)) r1 2)) r0 3 ((uI (uI ro r0 1 (ro r1 1)) r0 2 ((uI ro r0 1 (ro r1 1)) r1 2)) r1 3)) r1 4)) r0 5 ((uI (uI (uI (uI ro r0 1 (ro r1 1)) r0 2 ((uI ro r0 1 (ro r1 1)) r1 2)) r0 3 ((uI (uI ro r0 1 (ro r1 1)) r0 2 ((uI ro r0 1 (ro r1 1)) r1 2)) r1 3)) r0 4 ((uI (uI (uI ro r0 1 (ro r1 1)) r0 2 ((uI ro r0 1 (ro r1 1)) r1 2)) r0 3 ((uI (uI ro r0 1 (ro r1 1)) r0 2 ((uI ro r0 1 (ro r1 1)) r1 2)) r1 3)) r1 4)) r1 5)) r0 6 ((uI (uI (uI (uI (uI ro r0 1 (ro r1 1)) r0 2 ((uI ro r0 1 (ro r1 1)) r1 2)) r0 3 ((uI (uI ro r0 1 (ro r1 1)) r0 2 ((uI ro r0 1 (ro r1 1)) r1 2)) r1 3)) r0 4 ((uI (uI (uI ro r0 1 (ro r1 1)) r0 2 ((uI ro r0 1 (ro r1 1)) r1 2)) r0 3 ((uI (uI ro r0 1 (ro r1 1)) r0 2 ((uI ro r0 1 (ro r1 1)) r1 2)) r1 3)) r1 4)) r0 5 ((uI (uI (uI (uI ro r0 1 (ro r1 1)) r0 2 ((uI ro r0 1 (ro r1 1)) r1 2)) r0 3 ((uI (uI ro r0 1 (ro r1 1)) r0 2 ((uI ro r0 1 (ro r1 1)) r1 2)) r1 3)) r0 4 ((uI (uI (uI ro r0 1 (ro r1 1)) r0 2 ((uI ro r0 1 (ro r1 1)) r1 2)) r0 3 ((uI (uI ro r0 1 (ro r1 1)) r0 2 ((uI ro r0 1 (ro r1 1)) r1 2)) r1 3)) r1 4)) r1 5)) r1 6)) r0 7 ((uI (uI (uI (uI (uI (uI ro r0 1 (ro r1 1)) r0 2 ((uI ro r0 1 (ro r1 1)) r1 2)) r0 3 ((uI (uI ro r0 1 (ro r1 1)) r0 2 ((uI ro r0 1 (ro r1 1)) r1 2)) r1 3)) r0 4 ((uI (uI (uI ro r0 1 (ro r1 1)) r0 2 ((uI ro r0 1 (ro r1 1)) r1 2)) r0 3 ((uI (uI ro r0 1 (ro r1 1)) r0 2 ((uI ro r0 1 (ro r1 1)) r1 2)) r1 3)) r1 4)) r0 5 ((uI (uI (uI (uI ro r0 1 (ro r1 1)) r0 2 ((uI ro r0 1 (ro r1 1)) r1 2)) r0 3 ((uI (uI ro r0 1 (ro r1 1)) r0 2 ((uI ro r0 1 (ro r1 1)) r1 2)) r1 3)) r0 4 ((uI (uI (uI ro r0 1 (ro r1 1)) r0 2 ((uI ro r0 1 (ro r1 1)) r1 2)) r0 3 ((uI (uI ro r0 1 (ro r1 1)) r0 2 ((uI ro r0 1 (ro r1 1)) r1 2)) r1 3)) r1 4)) r1 5)) r0 6 ((uI (uI (uI (uI (uI ro r0 1 (ro r1 1)) r0 2 ((uI ro r0 1 (ro r1 1)) r1 2)) r0 3 ((uI (uI ro r0 1 (ro r1 1)) r0 2 ((uI ro r0 1 (ro r1 1)) r1 2)) r1 3)) r0 4 ((uI (uI (uI ro r0 1 (ro r1 1)) r0 2 ((uI ro r0 1 (ro r1 1)) r1 2)) r0 3 ((uI (uI ro r0 1 (ro r1 1)) r0 2 ((uI ro r0 1 (ro r1 1)) r1 2)) r1 3)) r1 4)) r0 5 ((uI (uI (uI (uI ro r0 1 (ro r1 1)) r0 2 ((uI ro r0 1 (ro r1 1)) r1 2)) r0 3 ((uI (uI ro r0 1 (ro r1 1)) r0 2 ((uI ro r0 1 (ro r1 1)) r1 2)) r1 3)) r0 4 ((uI (uI (uI ro r0 1 (ro r1 1)) r0 2 ((uI ro r0 1 (ro r1 1)) r1 2)) r0 3 ((uI (uI ro r0 1 (ro r1 1)) r0 2 ((uI ro r0 1 (ro r1 1)) r1 2)) r1 3)) r1 4)) r1 5)) r1 6)) r1 7)) r1 8)) r1 9)))
  refine (wX_in rfl (by decide)).trans ?_
  show wG (d) 82 (0, [.ref r0, .ref r1], [], mkH E ro) Q = _
  refine (r_aload_n rfl rfl rfl).trans ?_
  refine (r_aload_n rfl rfl rfl).trans ?_
  refine (r_getI (ci := 5) (sl := 1) rfl rfl rfl h1.2.1 h1.1).trans ?_
  refine (r_putI (ci := 5) (sl := 1) rfl rfl rfl h0.2.1 h0.1).trans ?_
  refine (r_aload_n rfl rfl rfl).trans ?_
  refine (r_aload_n rfl rfl rfl).trans ?_
  refine (r_getI (ci := 5) (sl := 2) rfl rfl rfl h1.2.1 h1.1).trans ?_
  refine (r_putI (ci := 5) (sl := 2) rfl rfl rfl h0.2.1 h0.1).trans ?_
  refine (r_aload_n rfl rfl rfl).trans ?_
  refine (r_aload_n rfl rfl rfl).trans ?_
  refine (r_getI (ci := 5) (sl := 3) rfl rfl rfl h1.2.1 h1.1).trans ?_
  refine (r_putI (ci := 5) (sl := 3) rfl rfl rfl h0.2.1 h0.1).trans ?_
  refine (r_aload_n rfl rfl rfl).trans ?_
  refine (r_aload_n rfl rfl rfl).trans ?_
  refine (r_getI (ci := 5) (sl := 4) rfl rfl rfl h1.2.1 h1.1).trans ?_
  refine (r_putI (ci := 5) (sl := 4) rfl rfl rfl h0.2.1 h0.1).trans ?_
  refine (r_aload_n rfl rfl rfl).trans ?_
  refine (r_aload_n rfl rfl rfl).trans ?_
  refine (r_getI (ci := 5) (sl := 5) rfl rfl rfl h1.2.1 h1.1).trans ?_
  refine (r_putI (ci := 5) (sl := 5) rfl rfl rfl h0.2.1 h0.1).trans ?_
  refine (r_aload_n rfl rfl rfl).trans ?_
  refine (r_aload_n rfl rfl rfl).trans ?_
  refine (r_getI (ci := 5) (sl := 6) rfl rfl rfl h1.2.1 h1.1).trans ?_
  refine (r_putI (ci := 5) (sl := 6) rfl rfl rfl h0.2.1 h0.1).trans ?_
  refine (r_aload_n rfl rfl rfl).trans ?_
  refine (r_aload_n rfl rfl rfl).trans ?_
  refine (r_getI (ci := 5) (sl := 7) rfl rfl rfl h1.2.1 h1.1).trans ?_
  refine (r_putI (ci := 5) (sl := 7) rfl rfl rfl h0.2.1 h0.1).trans ?_
  refine (r_aload_n rfl rfl rfl).trans ?_
  refine (r_aload_n rfl rfl rfl).trans ?_
  refine (r_getI (ci := 5) (sl := 8) rfl rfl rfl h1.2.1 h1.1).trans ?_
  refine (r_putI (ci := 5) (sl := 8) rfl rfl rfl h0.2.1 h0.1).trans ?_
  refine (r_aload_n rfl rfl rfl).trans ?_
  refine (r_aload_n rfl rfl rfl).trans ?_
  refine (r_getI (ci := 5) (sl := 9) rfl rfl rfl h1.2.1 h1.1).trans ?_
  refine (r_putI (ci := 5) (sl := 9) rfl rfl rfl h0.2.1 h0.1).trans ?_
  exact r_vret rfl rfl

def g_X6_write (ro : Nat → Nat → Int32) (r0 : Nat) (x1 : Int32) (x2 : Int32) : Nat → Nat → Int32 := (g_X4_change ro (r0 + 1) 40 x1 ((x2 <<< ((32 - (ro r0 1)) &&& 31)) >>> ((32 - (ro r0 1)) &&& 31)))
theorem x_X6_write {d : Nat} {E : pEv} {ro : Nat → Nat → Int32} {Q : Option Value → pH → Prop} (s_E : oE E) {r0 : Nat} (h0 : oSheet r0) {x1 : Int32} {x2 : Int32} : wX (d + 2) 85 [.ref r0, .int x1, .int x2] (mkH E ro) Q = Q none (mkH E (g_X6_write ro r0 x1 x2)) := by
  show _ = Q none (mkH E (g_X4_change ro (r0 + 1) 40 x1 ((x2 <<< ((32 - (ro r0 1)) &&& 31)) >>> ((32 - (ro r0 1)) &&& 31))))
  refine (wX_in rfl (by decide)).trans ?_
  show wG (d + 1) 85 (0, [.ref r0, .int x1, .int x2, .retAddr 0], [], mkH E ro) Q = _
  refine (r_bipush (v := 32) rfl rfl rfl).trans ?_
  refine (r_aload_n rfl rfl rfl).trans ?_
  refine (r_getI (ci := 6) (sl := 1) rfl rfl rfl h0.2.1 h0.1).trans ?_
  refine (r_isub rfl rfl).trans ?_
  refine (r_istore_n rfl rfl rfl rfl).trans ?_
  refine (r_aload_n rfl rfl rfl).trans ?_
  refine (r_getR (ci := 6) (sl := 0) s_E rfl rfl rfl h0.2.1 h0.1 h0.2.2.1 (n81 h0.2.1 (by decide))).trans ?_
  refine (r_iload_n rfl rfl rfl).trans ?_
  refine (r_iload_n rfl rfl rfl).trans ?_
  refine (r_iload_n rfl rfl rfl).trans ?_
  refine (r_ishl rfl rfl).trans ?_
  refine (r_iload_n rfl rfl rfl).trans ?_
  refine (r_ishr rfl rfl).trans ?_
  refine (r_inv (m := 58) (c := 4) rfl rfl rfl rfl rfl rfl h0.2.2.2.2.1 rfl).trans ?_
  refine (x_X4_change (d := d) s_E h0.2.2.2).trans ?_
  show wG (d + 1) 85 (21, [.ref r0, .int x1, .int x2, .int (32 - (ro r0 1))], [], mkH E (g_X4_change ro (r0 + 1) 40 x1 ((x2 <<< ((32 - (ro r0 1)) &&& 31)) >>> ((32 - (ro r0 1)) &&& 31)))) Q = _
  exact r_vret rfl rfl

def f_X7_bodyOf (E : pEv) (x0 : Int32) (x1 : Int32) : Int32 := (if ((x1 * 4) + x0) < 0 then 0 else (if ((x1 * 4) + x0) < 28 then exI E.2.1 8 ((x1 * 4) + x0).toNatClampNeg else 0))
theorem x_X7_bodyOf {d : Nat} {E : pEv} {ro : Nat → Nat → Int32} {Q : Option Value → pH → Prop} (s_E : oE E) {x0 : Int32} {x1 : Int32} : wX (d + 1) 88 [.int x0, .int x1] (mkH E ro) Q = Q (some (.int (f_X7_bodyOf E x0 x1))) (mkH E ro) := by
  show _ = Q (some (.int (if ((x1 * 4) + x0) < 0 then 0 else (if ((x1 * 4) + x0) < 28 then exI E.2.1 8 ((x1 * 4) + x0).toNatClampNeg else 0)))) (mkH E ro)
  refine (wX_in rfl (by decide)).trans ?_
  show wG (d) 88 (0, [.int x0, .int x1, .retAddr 0], [], mkH E ro) Q = _
  refine (r_iload_n rfl rfl rfl).trans ?_
  refine (r_iconst (v := 4) rfl rfl rfl).trans ?_
  refine (r_imul rfl rfl).trans ?_
  refine (r_iload_n rfl rfl rfl).trans ?_
  refine (r_iadd rfl rfl).trans ?_
  refine (r_istore_n rfl rfl rfl rfl).trans ?_
  refine (r_iload_n rfl rfl rfl).trans ?_
  refine (r_if_lt rfl rfl rfl).trans ?_
  refine Eq.trans (ite_congr rfl (fun h_0 => ?_) (fun h_0 => ?_)) q_i
  · refine (r_iconst (v := 0) rfl rfl rfl).trans ?_
    exact r_iret rfl rfl
  · refine (r_iload_n rfl rfl rfl).trans ?_
    refine (r_gets (q := 8) rfl rfl rfl).trans ?_
    refine (r_alen (v := 28) rfl rfl rfl (by decide) (by decide) rfl).trans ?_
    refine (r_icmp_ge rfl rfl rfl).trans ?_
    refine Eq.trans (ite_congr rfl (fun h_1 => ?_) (fun h_1 => ?_)) q_i
    · refine (r_gets (q := 8) rfl rfl rfl).trans ?_
      refine (r_iload_n rfl rfl rfl).trans ?_
      refine (r_ialdT rfl rfl rfl (by decide) (ixL (n := 28) (by decide) h_0 h_1)).trans ?_
      refine (r_goto rfl rfl).trans ?_
      exact r_iret rfl rfl
    · refine (r_iconst (v := 0) rfl rfl rfl).trans ?_
      exact r_iret rfl rfl

def f_X9_seed (ro : Nat → Nat → Int32) (x1 : Int32) : Int32 := ro 11 11
def g_X9_seed (ro : Nat → Nat → Int32) (x1 : Int32) : Nat → Nat → Int32 := (uI ro 11 11 x1)
theorem x_X9_seed {d : Nat} {E : pEv} {ro : Nat → Nat → Int32} {Q : Option Value → pH → Prop} (s_E : oE E) {x1 : Int32} : wX (d + 1) 122 [.ref 10, .int x1] (mkH E ro) Q = Q (some (.int (f_X9_seed ro x1))) (mkH E (g_X9_seed ro x1)) := by
  show _ = Q (some (.int (ro 11 11))) (mkH E (uI ro 11 11 x1))
  refine (wX_in rfl (by decide)).trans ?_
  show wG (d) 122 (0, [.ref 10, .int x1, .retAddr 0], [], mkH E ro) Q = _
  refine (r_aload_n rfl rfl rfl).trans ?_
  refine (r_getR (ci := 9) (sl := 0) s_E rfl rfl rfl rfl (by decide) rfl rfl).trans ?_
  refine (r_getI (ci := 2) (sl := 11) rfl rfl rfl rfl (by decide)).trans ?_
  refine (r_istore_n rfl rfl rfl rfl).trans ?_
  refine (r_aload_n rfl rfl rfl).trans ?_
  refine (r_getR (ci := 9) (sl := 0) s_E rfl rfl rfl rfl (by decide) rfl rfl).trans ?_
  refine (r_iload_n rfl rfl rfl).trans ?_
  refine (r_putI (ci := 2) (sl := 11) rfl rfl rfl rfl (by decide)).trans ?_
  refine (r_iload_n rfl rfl rfl).trans ?_
  exact r_iret rfl rfl

def f_X9_within (x0 : Int32) (x1 : Int32) (x2 : Int32) : Int32 := (if x0 < x1 then 0 else (if x2 < x0 then 0 else 1))
theorem x_X9_within {d : Nat} {E : pEv} {ro : Nat → Nat → Int32} {Q : Option Value → pH → Prop} (s_E : oE E) {x0 : Int32} {x1 : Int32} {x2 : Int32} : wX (d + 1) 146 [.int x0, .int x1, .int x2] (mkH E ro) Q = Q (some (.int (f_X9_within x0 x1 x2))) (mkH E ro) := by
  show _ = Q (some (.int (if x0 < x1 then 0 else (if x2 < x0 then 0 else 1)))) (mkH E ro)
  refine (wX_in rfl (by decide)).trans ?_
  show wG (d) 146 (0, [.int x0, .int x1, .int x2], [], mkH E ro) Q = _
  refine (r_iload_n rfl rfl rfl).trans ?_
  refine (r_iload_n rfl rfl rfl).trans ?_
  refine (r_icmp_lt rfl rfl rfl).trans ?_
  refine Eq.trans (ite_congr rfl (fun h_0 => ?_) (fun h_0 => ?_)) q_i
  · refine (r_iconst (v := 0) rfl rfl rfl).trans ?_
    exact r_zret rfl rfl rfl
  · refine (r_iload_n rfl rfl rfl).trans ?_
    refine (r_iload_n rfl rfl rfl).trans ?_
    refine (r_icmp_gt rfl rfl rfl).trans ?_
    refine Eq.trans (ite_congr rfl (fun h_1 => ?_) (fun h_1 => ?_)) q_i
    · refine (r_iconst (v := 0) rfl rfl rfl).trans ?_
      exact r_zret rfl rfl rfl
    · refine (r_iconst (v := 1) rfl rfl rfl).trans ?_
      refine (r_goto rfl rfl).trans ?_
      exact r_zret rfl rfl rfl
theorem z_X9_within {x0 : Int32} {x1 : Int32} {x2 : Int32} : narrow .boolean (.int (f_X9_within x0 x1 x2)) = .int (f_X9_within x0 x1 x2) := by
  unfold f_X9_within
  (repeat' split) <;> first | rfl
theorem ixW {x y : Int32} {n : Nat} (hy : (decide (y = nI (n - 1)) && decide (0 < n) && decide (n < 1000)) = true) (h : ¬ f_X9_within x 0 y = 0) : ¬ x < 0 ∧ x.toNatClampNeg < n := by
  simp only [Bool.and_eq_true, decide_eq_true_eq] at hy
  obtain ⟨⟨h1, h2⟩, h3⟩ := hy
  unfold f_X9_within at h
  by_cases q1 : x < 0
  · rw [if_pos q1] at h
    exact absurd rfl h
  · rw [if_neg q1] at h
    by_cases q2 : y < x
    · rw [if_pos q2] at h
      exact absurd rfl h
    · obtain ⟨j, hj, rfl⟩ := nI_of q1
      rw [h1] at q2
      have := (nI_leI hj (by omega)).mp (Int32.not_lt.mp q2)
      rw [nI_clamp hj]
      exact ⟨q1, by omega⟩

def f_X9_held (x0 : Int32) (x1 : Int32) (x2 : Int32) : Int32 := if x1 < (if x0 < x2 then x0 else x2) then (if x0 < x2 then x0 else x2) else x1
theorem x_X9_held {d : Nat} {E : pEv} {ro : Nat → Nat → Int32} {Q : Option Value → pH → Prop} (s_E : oE E) {x0 : Int32} {x1 : Int32} {x2 : Int32} : wX (d + 1) 147 [.int x0, .int x1, .int x2] (mkH E ro) Q = Q (some (.int (f_X9_held x0 x1 x2))) (mkH E ro) := by
  show _ = Q (some (.int (if x1 < (if x0 < x2 then x0 else x2) then (if x0 < x2 then x0 else x2) else x1))) (mkH E ro)
  refine (wX_in rfl (by decide)).trans ?_
  show wG (d) 147 (0, [.int x0, .int x1, .int x2], [], mkH E ro) Q = _
  refine (r_iload_n rfl rfl rfl).trans ?_
  refine (r_iload_n rfl rfl rfl).trans ?_
  refine (r_iload_n rfl rfl rfl).trans ?_
  refine (r_min rfl rfl rfl).trans ?_
  refine (r_max rfl rfl rfl).trans ?_
  exact r_iret rfl rfl

def f_X9_truth (x0 : Int32) : Int32 := (if x0 = 0 then 0 else 1)
theorem x_X9_truth {d : Nat} {E : pEv} {ro : Nat → Nat → Int32} {Q : Option Value → pH → Prop} (s_E : oE E) {x0 : Int32} : wX (d + 1) 148 [.int x0] (mkH E ro) Q = Q (some (.int (f_X9_truth x0))) (mkH E ro) := by
  show _ = Q (some (.int (if x0 = 0 then 0 else 1))) (mkH E ro)
  refine (wX_in rfl (by decide)).trans ?_
  show wG (d) 148 (0, [.int x0], [], mkH E ro) Q = _
  refine (r_iload_n rfl rfl rfl).trans ?_
  refine (r_if_eq rfl rfl rfl).trans ?_
  refine Eq.trans (ite_congr rfl (fun h_0 => ?_) (fun h_0 => ?_)) q_i
  · refine (r_iconst (v := 0) rfl rfl rfl).trans ?_
    exact r_iret rfl rfl
  · refine (r_iconst (v := 1) rfl rfl rfl).trans ?_
    refine (r_goto rfl rfl).trans ?_
    exact r_iret rfl rfl

def f_X9_aboveOf (E : pEv) (x0 : Int32) : Int32 := (if (f_X9_within x0 0 (7 - 1)) = 0 then (-1) else exI E.2.1 6 x0.toNatClampNeg)
theorem x_X9_aboveOf {d : Nat} {E : pEv} {ro : Nat → Nat → Int32} {Q : Option Value → pH → Prop} (s_E : oE E) {x0 : Int32} : wX (d + 2) 150 [.int x0] (mkH E ro) Q = Q (some (.int (f_X9_aboveOf E x0))) (mkH E ro) := by
  show _ = Q (some (.int (if (f_X9_within x0 0 (7 - 1)) = 0 then (-1) else exI E.2.1 6 x0.toNatClampNeg))) (mkH E ro)
  refine (wX_in rfl (by decide)).trans ?_
  show wG (d + 1) 150 (0, [.int x0], [], mkH E ro) Q = _
  refine (r_iload_n rfl rfl rfl).trans ?_
  refine (r_iconst (v := 0) rfl rfl rfl).trans ?_
  refine (r_gets (q := 6) rfl rfl rfl).trans ?_
  refine (r_alen (v := 7) rfl rfl rfl (by decide) (by decide) rfl).trans ?_
  refine (r_iconst (v := 1) rfl rfl rfl).trans ?_
  refine (r_isub rfl rfl).trans ?_
  refine (r_ins (m := 146) rfl rfl rfl rfl rfl rfl).trans ?_
  refine (x_X9_within (d := d) s_E).trans ?_
  show wG (d + 1) 150 (11, [.int x0], [.int (f_X9_within x0 0 (7 - 1))], mkH E ro) Q = _
  refine (r_if_eq rfl rfl rfl).trans ?_
  refine Eq.trans (ite_congr rfl (fun h_0 => ?_) (fun h_0 => ?_)) q_i
  · refine (r_iconst (v := (-1)) rfl rfl rfl).trans ?_
    exact r_iret rfl rfl
  · refine (r_gets (q := 6) rfl rfl rfl).trans ?_
    refine (r_iload_n rfl rfl rfl).trans ?_
    refine (r_ialdT rfl rfl rfl (by decide) (ixW (n := 7) (by decide) h_0)).trans ?_
    refine (r_goto rfl rfl).trans ?_
    exact r_iret rfl rfl

def f_X10_finds (x1 : Int32) : Int32 := (-1000000000) - x1
def g_X10_finds (ro : Nat → Nat → Int32) (x1 : Int32) : Nat → Nat → Int32 := (uI ro 104 x1.toNatClampNeg ((ro 104 x1.toNatClampNeg) + 1))
theorem x_X10_finds {d : Nat} {E : pEv} {ro : Nat → Nat → Int32} {Q : Option Value → pH → Prop} (s_E : oE E) {x1 : Int32} (b0 : (¬ x1 < 0 ∧ x1.toNatClampNeg < 6)) : wX (d + 1) 153 [.ref 101, .int x1] (mkH E ro) Q = Q (some (.int (f_X10_finds x1))) (mkH E (g_X10_finds ro x1)) := by
  show _ = Q (some (.int ((-1000000000) - x1))) (mkH E (uI ro 104 x1.toNatClampNeg ((ro 104 x1.toNatClampNeg) + 1)))
  refine (wX_in rfl (by decide)).trans ?_
  show wG (d) 153 (0, [.ref 101, .int x1], [], mkH E ro) Q = _
  refine (r_aload_n rfl rfl rfl).trans ?_
  refine (r_getR (ci := 10) (sl := 3) s_E rfl rfl rfl rfl (by decide) rfl rfl).trans ?_
  refine (r_iload_n rfl rfl rfl).trans ?_
  refine (r_dup2 rfl rfl).trans ?_
  refine (r_iald rfl rfl rfl (by decide) b0).trans ?_
  refine (r_iconst (v := 1) rfl rfl rfl).trans ?_
  refine (r_iadd rfl rfl).trans ?_
  refine (r_iast rfl rfl rfl (by decide) b0).trans ?_
  refine (r_ldc (v := (-1000000000)) rfl rfl rfl).trans ?_
  refine (r_iload_n rfl rfl rfl).trans ?_
  refine (r_isub rfl rfl).trans ?_
  exact r_iret rfl rfl

def f_X10_in (w0 : Int64) (w2 : Int64) (w4 : Int64) : Int32 := (if (lg_cmp w0 w2) < 0 then 0 else (if 0 < (lg_cmp w0 w4) then 0 else 1))
theorem x_X10_in {d : Nat} {E : pEv} {ro : Nat → Nat → Int32} {Q : Option Value → pH → Prop} (s_E : oE E) {w0 : Int64} {w2 : Int64} {w4 : Int64} : wX (d + 1) 154 [.long w0, .long w2, .long w4] (mkH E ro) Q = Q (some (.int (f_X10_in w0 w2 w4))) (mkH E ro) := by
  show _ = Q (some (.int (if (lg_cmp w0 w2) < 0 then 0 else (if 0 < (lg_cmp w0 w4) then 0 else 1)))) (mkH E ro)
  refine (wX_in rfl (by decide)).trans ?_
  show wG (d) 154 (0, [.long w0, .retAddr 0, .long w2, .retAddr 0, .long w4, .retAddr 0], [], mkH E ro) Q = _
  refine (r_lload_n rfl rfl rfl).trans ?_
  refine (r_lload_n rfl rfl rfl).trans ?_
  refine (r_lcmp rfl rfl).trans ?_
  refine (r_if_lt rfl rfl rfl).trans ?_
  refine Eq.trans (ite_congr rfl (fun h_0 => ?_) (fun h_0 => ?_)) q_i
  · refine (r_iconst (v := 0) rfl rfl rfl).trans ?_
    exact r_zret rfl rfl rfl
  · refine (r_lload_n rfl rfl rfl).trans ?_
    refine (r_lload rfl rfl rfl).trans ?_
    refine (r_lcmp rfl rfl).trans ?_
    refine (r_if_gt rfl rfl rfl).trans ?_
    refine Eq.trans (ite_congr rfl (fun h_1 => ?_) (fun h_1 => ?_)) q_i
    · refine (r_iconst (v := 0) rfl rfl rfl).trans ?_
      exact r_zret rfl rfl rfl
    · refine (r_iconst (v := 1) rfl rfl rfl).trans ?_
      refine (r_goto rfl rfl).trans ?_
      exact r_zret rfl rfl rfl
theorem z_X10_in {w0 : Int64} {w2 : Int64} {w4 : Int64} : narrow .boolean (.int (f_X10_in w0 w2 w4)) = .int (f_X10_in w0 w2 w4) := by
  unfold f_X10_in
  (repeat' split) <;> first | rfl

def f_X10_held (x0 : Int32) (x1 : Int32) (x2 : Int32) : Int32 := (if x0 < x1 then x1 else (if x2 < x0 then x2 else x0))
theorem x_X10_held {d : Nat} {E : pEv} {ro : Nat → Nat → Int32} {Q : Option Value → pH → Prop} (s_E : oE E) {x0 : Int32} {x1 : Int32} {x2 : Int32} : wX (d + 1) 155 [.int x0, .int x1, .int x2] (mkH E ro) Q = Q (some (.int (f_X10_held x0 x1 x2))) (mkH E ro) := by
  show _ = Q (some (.int (if x0 < x1 then x1 else (if x2 < x0 then x2 else x0)))) (mkH E ro)
  refine (wX_in rfl (by decide)).trans ?_
  show wG (d) 155 (0, [.int x0, .int x1, .int x2], [], mkH E ro) Q = _
  refine (r_iload_n rfl rfl rfl).trans ?_
  refine (r_iload_n rfl rfl rfl).trans ?_
  refine (r_icmp_ge rfl rfl rfl).trans ?_
  refine Eq.trans (ite_congr rfl (fun h_0 => ?_) (fun h_0 => ?_)) q_i
  · refine (r_iload_n rfl rfl rfl).trans ?_
    refine (r_goto rfl rfl).trans ?_
    exact r_iret rfl rfl
  · refine (r_iload_n rfl rfl rfl).trans ?_
    refine (r_iload_n rfl rfl rfl).trans ?_
    refine (r_icmp_le rfl rfl rfl).trans ?_
    refine Eq.trans (ite_congr rfl (fun h_1 => ?_) (fun h_1 => ?_)) q_i
    · refine (r_iload_n rfl rfl rfl).trans ?_
      refine (r_goto rfl rfl).trans ?_
      exact r_iret rfl rfl
    · refine (r_iload_n rfl rfl rfl).trans ?_
      exact r_iret rfl rfl

def f_X10_isScene (ro : Nat → Nat → Int32) (x1 : Int32) : Int32 := f_X10_in x1.toInt64 0 (((ro 102 0) - 1).toInt64)
theorem x_X10_isScene {d : Nat} {E : pEv} {ro : Nat → Nat → Int32} {Q : Option Value → pH → Prop} (s_E : oE E) {x1 : Int32} : wX (d + 2) 156 [.ref 101, .int x1] (mkH E ro) Q = Q (some (.int (f_X10_isScene ro x1))) (mkH E ro) := by
  show _ = Q (some (.int (f_X10_in x1.toInt64 0 (((ro 102 0) - 1).toInt64)))) (mkH E ro)
  refine (wX_in rfl (by decide)).trans ?_
  show wG (d + 1) 156 (0, [.ref 101, .int x1], [], mkH E ro) Q = _
  refine (r_iload_n rfl rfl rfl).trans ?_
  refine (r_i2l rfl rfl).trans ?_
  refine (r_lconst (w := 0) rfl rfl rfl).trans ?_
  refine (r_aload_n rfl rfl rfl).trans ?_
  refine (r_getR (ci := 10) (sl := 0) s_E rfl rfl rfl rfl (by decide) rfl rfl).trans ?_
  refine (r_iconst (v := 0) rfl rfl rfl).trans ?_
  refine (r_iald rfl rfl rfl (by decide) (by decide)).trans ?_
  refine (r_iconst (v := 1) rfl rfl rfl).trans ?_
  refine (r_isub rfl rfl).trans ?_
  refine (r_i2l rfl rfl).trans ?_
  refine (r_ins (m := 154) rfl rfl rfl rfl rfl rfl).trans ?_
  refine (x_X10_in (d := d) s_E).trans ?_
  show wG (d + 1) 156 (15, [.ref 101, .int x1], [.int (f_X10_in x1.toInt64 0 (((ro 102 0) - 1).toInt64))], mkH E ro) Q = _
  exact r_zret rfl rfl (z_X10_in)
theorem z_X10_isScene {ro : Nat → Nat → Int32} {x1 : Int32} : narrow .boolean (.int (f_X10_isScene ro x1)) = .int (f_X10_isScene ro x1) := by
  unfold f_X10_isScene
  (repeat' split) <;> first | rfl | exact z_X10_in

def f_X10_its (ro : Nat → Nat → Int32) (x1 : Int32) (x2 : Int32) : Int32 := ro 102 ((10 + (10 * x1)) + x2).toNatClampNeg
theorem x_X10_its {d : Nat} {E : pEv} {ro : Nat → Nat → Int32} {Q : Option Value → pH → Prop} (s_E : oE E) {x1 : Int32} {x2 : Int32} (b0 : (¬ ((10 + (10 * x1)) + x2) < 0 ∧ ((10 + (10 * x1)) + x2).toNatClampNeg < 264)) : wX (d + 1) 157 [.ref 101, .int x1, .int x2] (mkH E ro) Q = Q (some (.int (f_X10_its ro x1 x2))) (mkH E ro) := by
  show _ = Q (some (.int (ro 102 ((10 + (10 * x1)) + x2).toNatClampNeg))) (mkH E ro)
  refine (wX_in rfl (by decide)).trans ?_
  show wG (d) 157 (0, [.ref 101, .int x1, .int x2], [], mkH E ro) Q = _
  refine (r_aload_n rfl rfl rfl).trans ?_
  refine (r_getR (ci := 10) (sl := 0) s_E rfl rfl rfl rfl (by decide) rfl rfl).trans ?_
  refine (r_bipush (v := 10) rfl rfl rfl).trans ?_
  refine (r_bipush (v := 10) rfl rfl rfl).trans ?_
  refine (r_iload_n rfl rfl rfl).trans ?_
  refine (r_imul rfl rfl).trans ?_
  refine (r_iadd rfl rfl).trans ?_
  refine (r_iload_n rfl rfl rfl).trans ?_
  refine (r_iadd rfl rfl).trans ?_
  refine (r_iald rfl rfl rfl (by decide) b0).trans ?_
  exact r_iret rfl rfl

def g_X10_puts (ro : Nat → Nat → Int32) (x1 : Int32) (x2 : Int32) (x3 : Int32) : Nat → Nat → Int32 := (uI ro 102 ((10 + (10 * x1)) + x2).toNatClampNeg x3)
theorem x_X10_puts {d : Nat} {E : pEv} {ro : Nat → Nat → Int32} {Q : Option Value → pH → Prop} (s_E : oE E) {x1 : Int32} {x2 : Int32} {x3 : Int32} (b0 : (¬ ((10 + (10 * x1)) + x2) < 0 ∧ ((10 + (10 * x1)) + x2).toNatClampNeg < 264)) : wX (d + 1) 158 [.ref 101, .int x1, .int x2, .int x3] (mkH E ro) Q = Q none (mkH E (g_X10_puts ro x1 x2 x3)) := by
  show _ = Q none (mkH E (uI ro 102 ((10 + (10 * x1)) + x2).toNatClampNeg x3))
  refine (wX_in rfl (by decide)).trans ?_
  show wG (d) 158 (0, [.ref 101, .int x1, .int x2, .int x3], [], mkH E ro) Q = _
  refine (r_aload_n rfl rfl rfl).trans ?_
  refine (r_getR (ci := 10) (sl := 0) s_E rfl rfl rfl rfl (by decide) rfl rfl).trans ?_
  refine (r_bipush (v := 10) rfl rfl rfl).trans ?_
  refine (r_bipush (v := 10) rfl rfl rfl).trans ?_
  refine (r_iload_n rfl rfl rfl).trans ?_
  refine (r_imul rfl rfl).trans ?_
  refine (r_iadd rfl rfl).trans ?_
  refine (r_iload_n rfl rfl rfl).trans ?_
  refine (r_iadd rfl rfl).trans ?_
  refine (r_iload_n rfl rfl rfl).trans ?_
  refine (r_iast rfl rfl rfl (by decide) b0).trans ?_
  exact r_vret rfl rfl

def f_X10_here (ro : Nat → Nat → Int32) : Int32 := (if (ro 101 5) < (ro 101 6) then (if (ro 101 7) < 0 then ro 102 ((ro 101 4) + (ro 101 5)).toNatClampNeg else (-1)) else (-1))
theorem x_X10_here {d : Nat} {E : pEv} {ro : Nat → Nat → Int32} {Q : Option Value → pH → Prop} (s_E : oE E) (b0 : ((ro 101 5) < (ro 101 6)) → ((ro 101 7) < 0) → (¬ ((ro 101 4) + (ro 101 5)) < 0 ∧ ((ro 101 4) + (ro 101 5)).toNatClampNeg < 264)) : wX (d + 1) 160 [.ref 101] (mkH E ro) Q = Q (some (.int (f_X10_here ro))) (mkH E ro) := by
  show _ = Q (some (.int (if (ro 101 5) < (ro 101 6) then (if (ro 101 7) < 0 then ro 102 ((ro 101 4) + (ro 101 5)).toNatClampNeg else (-1)) else (-1)))) (mkH E ro)
  refine (wX_in rfl (by decide)).trans ?_
  show wG (d) 160 (0, [.ref 101], [], mkH E ro) Q = _
  refine (r_aload_n rfl rfl rfl).trans ?_
  refine (r_getI (ci := 10) (sl := 5) rfl rfl rfl rfl (by decide)).trans ?_
  refine (r_aload_n rfl rfl rfl).trans ?_
  refine (r_getI (ci := 10) (sl := 6) rfl rfl rfl rfl (by decide)).trans ?_
  refine (r_icmp_ge rfl rfl rfl).trans ?_
  refine Eq.trans (ite_congr rfl (fun h_0 => ?_) (fun h_0 => ?_)) q_i
  · refine (r_aload_n rfl rfl rfl).trans ?_
    refine (r_getI (ci := 10) (sl := 7) rfl rfl rfl rfl (by decide)).trans ?_
    refine (r_if_ge rfl rfl rfl).trans ?_
    refine Eq.trans (ite_congr rfl (fun h_1 => ?_) (fun h_1 => ?_)) q_i
    · refine (r_aload_n rfl rfl rfl).trans ?_
      refine (r_getR (ci := 10) (sl := 0) s_E rfl rfl rfl rfl (by decide) rfl rfl).trans ?_
      refine (r_aload_n rfl rfl rfl).trans ?_
      refine (r_getI (ci := 10) (sl := 4) rfl rfl rfl rfl (by decide)).trans ?_
      refine (r_aload_n rfl rfl rfl).trans ?_
      refine (r_getI (ci := 10) (sl := 5) rfl rfl rfl rfl (by decide)).trans ?_
      refine (r_iadd rfl rfl).trans ?_
      refine (r_iald rfl rfl rfl (by decide) (b0 h_0 h_1)).trans ?_
      refine (r_goto rfl rfl).trans ?_
      exact r_iret rfl rfl
    · refine (r_iconst (v := (-1)) rfl rfl rfl).trans ?_
      exact r_iret rfl rfl
  · refine (r_iconst (v := (-1)) rfl rfl rfl).trans ?_
    exact r_iret rfl rfl

def f_X10_wrong (ro : Nat → Nat → Int32) : Int32 := (if (ro 101 7) < 0 then 0 else 0)
def g_X10_wrong (ro : Nat → Nat → Int32) : Nat → Nat → Int32 := (if (ro 101 7) < 0 then (uI ro 101 7 (ro 101 5)) else (uI ro 101 7 (ro 101 7)))
theorem x_X10_wrong {d : Nat} {E : pEv} {ro : Nat → Nat → Int32} {Q : Option Value → pH → Prop} (s_E : oE E) : wX (d + 1) 161 [.ref 101] (mkH E ro) Q = Q (some (.int (f_X10_wrong ro))) (mkH E (g_X10_wrong ro)) := by
  show _ = Q (some (.int (if (ro 101 7) < 0 then 0 else 0))) (mkH E (if (ro 101 7) < 0 then (uI ro 101 7 (ro 101 5)) else (uI ro 101 7 (ro 101 7))))
  refine (wX_in rfl (by decide)).trans ?_
  show wG (d) 161 (0, [.ref 101], [], mkH E ro) Q = _
  refine (r_aload_n rfl rfl rfl).trans ?_
  refine (r_aload_n rfl rfl rfl).trans ?_
  refine (r_getI (ci := 10) (sl := 7) rfl rfl rfl rfl (by decide)).trans ?_
  refine (r_if_ge rfl rfl rfl).trans ?_
  refine Eq.trans (ite_congr rfl (fun h_0 => ?_) (fun h_0 => ?_)) q_is
  · refine (r_aload_n rfl rfl rfl).trans ?_
    refine (r_getI (ci := 10) (sl := 5) rfl rfl rfl rfl (by decide)).trans ?_
    refine (r_goto rfl rfl).trans ?_
    refine (r_putI (ci := 10) (sl := 7) rfl rfl rfl rfl (by decide)).trans ?_
    refine (r_iconst (v := 0) rfl rfl rfl).trans ?_
    exact r_iret rfl rfl
  · refine (r_aload_n rfl rfl rfl).trans ?_
    refine (r_getI (ci := 10) (sl := 7) rfl rfl rfl rfl (by decide)).trans ?_
    refine (r_putI (ci := 10) (sl := 7) rfl rfl rfl rfl (by decide)).trans ?_
    refine (r_iconst (v := 0) rfl rfl rfl).trans ?_
    exact r_iret rfl rfl

def f_X10_takes (ro : Nat → Nat → Int32) (x1 : Int32) : Int32 := (if (f_X10_here ro) = x1 then 1 else 0)
def g_X10_takes (ro : Nat → Nat → Int32) (x1 : Int32) : Nat → Nat → Int32 := (if (f_X10_here ro) = x1 then (uI ro 101 5 ((ro 101 5) + 1)) else ro)
theorem x_X10_takes {d : Nat} {E : pEv} {ro : Nat → Nat → Int32} {Q : Option Value → pH → Prop} (s_E : oE E) {x1 : Int32} (b0 : (((ro 101 5) < (ro 101 6)) → ((ro 101 7) < 0) → (¬ ((ro 101 4) + (ro 101 5)) < 0 ∧ ((ro 101 4) + (ro 101 5)).toNatClampNeg < 264))) : wX (d + 2) 162 [.ref 101, .int x1] (mkH E ro) Q = Q (some (.int (f_X10_takes ro x1))) (mkH E (g_X10_takes ro x1)) := by
  show _ = Q (some (.int (if (f_X10_here ro) = x1 then 1 else 0))) (mkH E (if (f_X10_here ro) = x1 then (uI ro 101 5 ((ro 101 5) + 1)) else ro))
  refine (wX_in rfl (by decide)).trans ?_
  show wG (d + 1) 162 (0, [.ref 101, .int x1], [], mkH E ro) Q = _
  refine (r_aload_n rfl rfl rfl).trans ?_
  refine (r_inv (m := 160) (c := 10) rfl rfl rfl rfl rfl rfl rfl rfl).trans ?_
  refine (x_X10_here (d := d) s_E b0).trans ?_
  show wG (d + 1) 162 (4, [.ref 101, .int x1], [.int (f_X10_here ro)], mkH E ro) Q = _
  refine (r_iload_n rfl rfl rfl).trans ?_
  refine (r_icmp_eq rfl rfl rfl).trans ?_
  refine Eq.trans (ite_congr rfl (fun h_0 => ?_) (fun h_0 => ?_)) q_is
  · refine (r_aload_n rfl rfl rfl).trans ?_
    refine (r_dupR rfl rfl).trans ?_
    refine (r_getI (ci := 10) (sl := 5) rfl rfl rfl rfl (by decide)).trans ?_
    refine (r_iconst (v := 1) rfl rfl rfl).trans ?_
    refine (r_iadd rfl rfl).trans ?_
    refine (r_putI (ci := 10) (sl := 5) rfl rfl rfl rfl (by decide)).trans ?_
    refine (r_iconst (v := 1) rfl rfl rfl).trans ?_
    exact r_zret rfl rfl rfl
  · refine (r_iconst (v := 0) rfl rfl rfl).trans ?_
    exact r_zret rfl rfl rfl
theorem z_X10_takes {ro : Nat → Nat → Int32} {x1 : Int32} : narrow .boolean (.int (f_X10_takes ro x1)) = .int (f_X10_takes ro x1) := by
  unfold f_X10_takes
  (repeat' split) <;> first | rfl

def f_X10_nameOf (ro : Nat → Nat → Int32) (x1 : Int32) : Int32 := (if (ro 101 9) = 0 then (if x1 = 99 then 0 else (if x1 = 108 then 1 else (if x1 = 109 then 2 else (-1)))) else (if x1 = 103 then 0 else (if x1 = 104 then 1 else (if x1 = 114 then 2 else (-1)))))
theorem x_X10_nameOf {d : Nat} {E : pEv} {ro : Nat → Nat → Int32} {Q : Option Value → pH → Prop} (s_E : oE E) {x1 : Int32} : wX (d + 1) 163 [.ref 101, .int x1] (mkH E ro) Q = Q (some (.int (f_X10_nameOf ro x1))) (mkH E ro) := by
  show _ = Q (some (.int (if (ro 101 9) = 0 then (if x1 = 99 then 0 else (if x1 = 108 then 1 else (if x1 = 109 then 2 else (-1)))) else (if x1 = 103 then 0 else (if x1 = 104 then 1 else (if x1 = 114 then 2 else (-1))))))) (mkH E ro)
  refine (wX_in rfl (by decide)).trans ?_
  show wG (d) 163 (0, [.ref 101, .int x1], [], mkH E ro) Q = _
  refine (r_aload_n rfl rfl rfl).trans ?_
  refine (r_getI (ci := 10) (sl := 9) rfl rfl rfl rfl (by decide)).trans ?_
  refine (r_if_eq rfl rfl rfl).trans ?_
  refine Eq.trans (ite_congr rfl (fun h_0 => ?_) (fun h_0 => ?_)) q_i
  · refine (r_iload_n rfl rfl rfl).trans ?_
    refine (r_bipush (v := 99) rfl rfl rfl).trans ?_
    refine (r_icmp_ne rfl rfl rfl).trans ?_
    refine Eq.trans (ite_congr rfl (fun h_1 => ?_) (fun h_1 => ?_)) q_i
    · refine (r_iconst (v := 0) rfl rfl rfl).trans ?_
      refine (r_goto rfl rfl).trans ?_
      exact r_iret rfl rfl
    · refine (r_iload_n rfl rfl rfl).trans ?_
      refine (r_bipush (v := 108) rfl rfl rfl).trans ?_
      refine (r_icmp_ne rfl rfl rfl).trans ?_
      refine Eq.trans (ite_congr rfl (fun h_2 => ?_) (fun h_2 => ?_)) q_i
      · refine (r_iconst (v := 1) rfl rfl rfl).trans ?_
        refine (r_goto rfl rfl).trans ?_
        exact r_iret rfl rfl
      · refine (r_iload_n rfl rfl rfl).trans ?_
        refine (r_bipush (v := 109) rfl rfl rfl).trans ?_
        refine (r_icmp_ne rfl rfl rfl).trans ?_
        refine Eq.trans (ite_congr rfl (fun h_3 => ?_) (fun h_3 => ?_)) q_i
        · refine (r_iconst (v := 2) rfl rfl rfl).trans ?_
          refine (r_goto rfl rfl).trans ?_
          exact r_iret rfl rfl
        · refine (r_iconst (v := (-1)) rfl rfl rfl).trans ?_
          exact r_iret rfl rfl
  · refine (r_iload_n rfl rfl rfl).trans ?_
    refine (r_bipush (v := 103) rfl rfl rfl).trans ?_
    refine (r_icmp_ne rfl rfl rfl).trans ?_
    refine Eq.trans (ite_congr rfl (fun h_1 => ?_) (fun h_1 => ?_)) q_i
    · refine (r_iconst (v := 0) rfl rfl rfl).trans ?_
      refine (r_goto rfl rfl).trans ?_
      exact r_iret rfl rfl
    · refine (r_iload_n rfl rfl rfl).trans ?_
      refine (r_bipush (v := 104) rfl rfl rfl).trans ?_
      refine (r_icmp_ne rfl rfl rfl).trans ?_
      refine Eq.trans (ite_congr rfl (fun h_2 => ?_) (fun h_2 => ?_)) q_i
      · refine (r_iconst (v := 1) rfl rfl rfl).trans ?_
        refine (r_goto rfl rfl).trans ?_
        exact r_iret rfl rfl
      · refine (r_iload_n rfl rfl rfl).trans ?_
        refine (r_bipush (v := 114) rfl rfl rfl).trans ?_
        refine (r_icmp_ne rfl rfl rfl).trans ?_
        refine Eq.trans (ite_congr rfl (fun h_3 => ?_) (fun h_3 => ?_)) q_i
        · refine (r_iconst (v := 2) rfl rfl rfl).trans ?_
          refine (r_goto rfl rfl).trans ?_
          exact r_iret rfl rfl
        · refine (r_iconst (v := (-1)) rfl rfl rfl).trans ?_
          exact r_iret rfl rfl

def f_X10_above (x0 : Int32) : Int32 := (if x0 < 4 then 0 else x0 - 3)
theorem x_X10_above {d : Nat} {E : pEv} {ro : Nat → Nat → Int32} {Q : Option Value → pH → Prop} (s_E : oE E) {x0 : Int32} : wX (d + 1) 175 [.int x0] (mkH E ro) Q = Q (some (.int (f_X10_above x0))) (mkH E ro) := by
  show _ = Q (some (.int (if x0 < 4 then 0 else x0 - 3))) (mkH E ro)
  refine (wX_in rfl (by decide)).trans ?_
  show wG (d) 175 (0, [.int x0], [], mkH E ro) Q = _
  refine (r_iload_n rfl rfl rfl).trans ?_
  refine (r_iconst (v := 4) rfl rfl rfl).trans ?_
  refine (r_icmp_ge rfl rfl rfl).trans ?_
  refine Eq.trans (ite_congr rfl (fun h_0 => ?_) (fun h_0 => ?_)) q_i
  · refine (r_iconst (v := 0) rfl rfl rfl).trans ?_
    refine (r_goto rfl rfl).trans ?_
    exact r_iret rfl rfl
  · refine (r_iload_n rfl rfl rfl).trans ?_
    refine (r_iconst (v := 3) rfl rfl rfl).trans ?_
    refine (r_isub rfl rfl).trans ?_
    exact r_iret rfl rfl

def f_X10_shock (ro : Nat → Nat → Int32) (x1 : Int32) : Int32 := (if (f_X10_its ro x1 0) = 2 then f_X10_its ro x1 1 else (if (f_X10_its ro x1 0) = 3 then 5 else (if (f_X10_its ro x1 0) = 4 then 0 else (if (f_X10_its ro x1 0) = 5 then f_X10_its ro x1 1 else (if (f_X10_its ro x1 0) = 6 then 5 + (f_X10_its ro x1 1) else 0)))))
theorem x_X10_shock {d : Nat} {E : pEv} {ro : Nat → Nat → Int32} {Q : Option Value → pH → Prop} (s_E : oE E) {x1 : Int32} (b0 : ((¬ ((10 + (10 * x1)) + (1 : Int32)) < 0 ∧ ((10 + (10 * x1)) + (1 : Int32)).toNatClampNeg < 264))) (b1 : ((¬ ((10 + (10 * x1)) + (0 : Int32)) < 0 ∧ ((10 + (10 * x1)) + (0 : Int32)).toNatClampNeg < 264))) : wX (d + 2) 178 [.ref 101, .int x1] (mkH E ro) Q = Q (some (.int (f_X10_shock ro x1))) (mkH E ro) := by
  show _ = Q (some (.int (if (f_X10_its ro x1 0) = 2 then f_X10_its ro x1 1 else (if (f_X10_its ro x1 0) = 3 then 5 else (if (f_X10_its ro x1 0) = 4 then 0 else (if (f_X10_its ro x1 0) = 5 then f_X10_its ro x1 1 else (if (f_X10_its ro x1 0) = 6 then 5 + (f_X10_its ro x1 1) else 0))))))) (mkH E ro)
  refine (wX_in rfl (by decide)).trans ?_
  show wG (d + 1) 178 (0, [.ref 101, .int x1, .retAddr 0], [], mkH E ro) Q = _
  refine (r_aload_n rfl rfl rfl).trans ?_
  refine (r_iload_n rfl rfl rfl).trans ?_
  refine (r_iconst (v := 1) rfl rfl rfl).trans ?_
  refine (r_inv (m := 157) (c := 10) rfl rfl rfl rfl rfl rfl rfl rfl).trans ?_
  refine (x_X10_its (d := d) s_E b0).trans ?_
  show wG (d + 1) 178 (6, [.ref 101, .int x1, .retAddr 0], [.int (f_X10_its ro x1 1)], mkH E ro) Q = _
  refine (r_istore_n rfl rfl rfl rfl).trans ?_
  refine (r_aload_n rfl rfl rfl).trans ?_
  refine (r_iload_n rfl rfl rfl).trans ?_
  refine (r_iconst (v := 0) rfl rfl rfl).trans ?_
  refine (r_inv (m := 157) (c := 10) rfl rfl rfl rfl rfl rfl rfl rfl).trans ?_
  refine (x_X10_its (d := d) s_E b1).trans ?_
  show wG (d + 1) 178 (13, [.ref 101, .int x1, .int (f_X10_its ro x1 1)], [.int (f_X10_its ro x1 0)], mkH E ro) Q = _
  refine (r_sw (i := (43, 2, 6)) rfl rfl).trans ?_
  refine (r_swc (y := 2) rfl).trans ?_
  refine Eq.trans (ite_congr rfl (fun h_0 => ?_) (fun h_0 => ?_)) q_i
  · refine (r_iload_n rfl rfl rfl).trans ?_
    exact r_iret rfl rfl
  · refine (r_swc (y := 3) rfl).trans ?_
    refine Eq.trans (ite_congr rfl (fun h_1 => ?_) (fun h_1 => ?_)) q_i
    · refine (r_iconst (v := 5) rfl rfl rfl).trans ?_
      exact r_iret rfl rfl
    · refine (r_swc (y := 4) rfl).trans ?_
      refine Eq.trans (ite_congr rfl (fun h_2 => ?_) (fun h_2 => ?_)) q_i
      · refine (r_iconst (v := 0) rfl rfl rfl).trans ?_
        exact r_iret rfl rfl
      · refine (r_swc (y := 5) rfl).trans ?_
        refine Eq.trans (ite_congr rfl (fun h_3 => ?_) (fun h_3 => ?_)) q_i
        · refine (r_iload_n rfl rfl rfl).trans ?_
          exact r_iret rfl rfl
        · refine (r_swc (y := 6) rfl).trans ?_
          refine Eq.trans (ite_congr rfl (fun h_4 => ?_) (fun h_4 => ?_)) q_i
          · refine (r_iconst (v := 5) rfl rfl rfl).trans ?_
            refine (r_iload_n rfl rfl rfl).trans ?_
            refine (r_iadd rfl rfl).trans ?_
            exact r_iret rfl rfl
          · refine r_swn.trans ?_
            refine (r_iconst (v := 0) rfl rfl rfl).trans ?_
            exact r_iret rfl rfl

def f_X10_prop (ro : Nat → Nat → Int32) (x1 : Int32) (x2 : Int32) (x3 : Int32) (x4 : Int32) : Int32 := (if (f_X10_isScene ro x1) = 0 then f_X10_finds 1 else (if (f_X10_in x2.toInt64 0 4) = 0 then f_X10_finds 1 else (if x2 < 4 then (if (f_X10_in x3.toInt64 0 5) = 0 then f_X10_finds 1 else (if (f_X10_in x4.toInt64 0 5) = 0 then f_X10_finds 1 else (if x2 < 4 then (if x2 < 4 then 1 else 1) else (if x2 < 4 then 1 else 1)))) else (if x2 < 4 then (if x2 < 4 then 1 else 1) else (if x2 < 4 then 1 else 1)))))
def g_X10_prop (ro : Nat → Nat → Int32) (x1 : Int32) (x2 : Int32) (x3 : Int32) (x4 : Int32) : Nat → Nat → Int32 := (if (f_X10_isScene ro x1) = 0 then (g_X10_finds ro 1) else (if (f_X10_in x2.toInt64 0 4) = 0 then (g_X10_finds ro 1) else (if x2 < 4 then (if (f_X10_in x3.toInt64 0 5) = 0 then (g_X10_finds ro 1) else (if (f_X10_in x4.toInt64 0 5) = 0 then (g_X10_finds ro 1) else (if x2 < 4 then (if x2 < 4 then (g_X10_puts (g_X10_puts (g_X10_puts ro x1 5 x2) x1 6 x3) x1 7 x4) else (g_X10_puts (g_X10_puts (g_X10_puts ro x1 5 x2) x1 6 x3) x1 7 0)) else (if x2 < 4 then (g_X10_puts (g_X10_puts (g_X10_puts ro x1 5 x2) x1 6 0) x1 7 x4) else (g_X10_puts (g_X10_puts (g_X10_puts ro x1 5 x2) x1 6 0) x1 7 0))))) else (if x2 < 4 then (if x2 < 4 then (g_X10_puts (g_X10_puts (g_X10_puts ro x1 5 x2) x1 6 x3) x1 7 x4) else (g_X10_puts (g_X10_puts (g_X10_puts ro x1 5 x2) x1 6 x3) x1 7 0)) else (if x2 < 4 then (g_X10_puts (g_X10_puts (g_X10_puts ro x1 5 x2) x1 6 0) x1 7 x4) else (g_X10_puts (g_X10_puts (g_X10_puts ro x1 5 x2) x1 6 0) x1 7 0))))))
theorem x_X10_prop {d : Nat} {E : pEv} {ro : Nat → Nat → Int32} {Q : Option Value → pH → Prop} (s_E : oE E) {x1 : Int32} {x2 : Int32} {x3 : Int32} {x4 : Int32} (b0 : (¬ (f_X10_isScene ro x1) = 0) → (¬ (f_X10_in x2.toInt64 0 4) = 0) → (x2 < 4) → (¬ (f_X10_in x3.toInt64 0 5) = 0) → (¬ (f_X10_in x4.toInt64 0 5) = 0) → ((¬ ((10 + (10 * x1)) + (5 : Int32)) < 0 ∧ ((10 + (10 * x1)) + (5 : Int32)).toNatClampNeg < 264))) (b1 : (¬ (f_X10_isScene ro x1) = 0) → (¬ (f_X10_in x2.toInt64 0 4) = 0) → (x2 < 4) → (¬ (f_X10_in x3.toInt64 0 5) = 0) → (¬ (f_X10_in x4.toInt64 0 5) = 0) → (x2 < 4) → ((¬ ((10 + (10 * x1)) + (6 : Int32)) < 0 ∧ ((10 + (10 * x1)) + (6 : Int32)).toNatClampNeg < 264))) (b2 : (¬ (f_X10_isScene ro x1) = 0) → (¬ (f_X10_in x2.toInt64 0 4) = 0) → (x2 < 4) → (¬ (f_X10_in x3.toInt64 0 5) = 0) → (¬ (f_X10_in x4.toInt64 0 5) = 0) → (x2 < 4) → (x2 < 4) → ((¬ ((10 + (10 * x1)) + (7 : Int32)) < 0 ∧ ((10 + (10 * x1)) + (7 : Int32)).toNatClampNeg < 264))) (b3 : (¬ (f_X10_isScene ro x1) = 0) → (¬ (f_X10_in x2.toInt64 0 4) = 0) → (x2 < 4) → (¬ (f_X10_in x3.toInt64 0 5) = 0) → (¬ (f_X10_in x4.toInt64 0 5) = 0) → (x2 < 4) → (¬ x2 < 4) → ((¬ ((10 + (10 * x1)) + (7 : Int32)) < 0 ∧ ((10 + (10 * x1)) + (7 : Int32)).toNatClampNeg < 264))) (b4 : (¬ (f_X10_isScene ro x1) = 0) → (¬ (f_X10_in x2.toInt64 0 4) = 0) → (x2 < 4) → (¬ (f_X10_in x3.toInt64 0 5) = 0) → (¬ (f_X10_in x4.toInt64 0 5) = 0) → (¬ x2 < 4) → ((¬ ((10 + (10 * x1)) + (6 : Int32)) < 0 ∧ ((10 + (10 * x1)) + (6 : Int32)).toNatClampNeg < 264))) (b5 : (¬ (f_X10_isScene ro x1) = 0) → (¬ (f_X10_in x2.toInt64 0 4) = 0) → (x2 < 4) → (¬ (f_X10_in x3.toInt64 0 5) = 0) → (¬ (f_X10_in x4.toInt64 0 5) = 0) → (¬ x2 < 4) → (x2 < 4) → ((¬ ((10 + (10 * x1)) + (7 : Int32)) < 0 ∧ ((10 + (10 * x1)) + (7 : Int32)).toNatClampNeg < 264))) (b6 : (¬ (f_X10_isScene ro x1) = 0) → (¬ (f_X10_in x2.toInt64 0 4) = 0) → (x2 < 4) → (¬ (f_X10_in x3.toInt64 0 5) = 0) → (¬ (f_X10_in x4.toInt64 0 5) = 0) → (¬ x2 < 4) → (¬ x2 < 4) → ((¬ ((10 + (10 * x1)) + (7 : Int32)) < 0 ∧ ((10 + (10 * x1)) + (7 : Int32)).toNatClampNeg < 264))) (b7 : (¬ (f_X10_isScene ro x1) = 0) → (¬ (f_X10_in x2.toInt64 0 4) = 0) → (¬ x2 < 4) → ((¬ ((10 + (10 * x1)) + (5 : Int32)) < 0 ∧ ((10 + (10 * x1)) + (5 : Int32)).toNatClampNeg < 264))) (b8 : (¬ (f_X10_isScene ro x1) = 0) → (¬ (f_X10_in x2.toInt64 0 4) = 0) → (¬ x2 < 4) → (x2 < 4) → ((¬ ((10 + (10 * x1)) + (6 : Int32)) < 0 ∧ ((10 + (10 * x1)) + (6 : Int32)).toNatClampNeg < 264))) (b9 : (¬ (f_X10_isScene ro x1) = 0) → (¬ (f_X10_in x2.toInt64 0 4) = 0) → (¬ x2 < 4) → (x2 < 4) → (x2 < 4) → ((¬ ((10 + (10 * x1)) + (7 : Int32)) < 0 ∧ ((10 + (10 * x1)) + (7 : Int32)).toNatClampNeg < 264))) (b10 : (¬ (f_X10_isScene ro x1) = 0) → (¬ (f_X10_in x2.toInt64 0 4) = 0) → (¬ x2 < 4) → (x2 < 4) → (¬ x2 < 4) → ((¬ ((10 + (10 * x1)) + (7 : Int32)) < 0 ∧ ((10 + (10 * x1)) + (7 : Int32)).toNatClampNeg < 264))) (b11 : (¬ (f_X10_isScene ro x1) = 0) → (¬ (f_X10_in x2.toInt64 0 4) = 0) → (¬ x2 < 4) → (¬ x2 < 4) → ((¬ ((10 + (10 * x1)) + (6 : Int32)) < 0 ∧ ((10 + (10 * x1)) + (6 : Int32)).toNatClampNeg < 264))) (b12 : (¬ (f_X10_isScene ro x1) = 0) → (¬ (f_X10_in x2.toInt64 0 4) = 0) → (¬ x2 < 4) → (¬ x2 < 4) → (x2 < 4) → ((¬ ((10 + (10 * x1)) + (7 : Int32)) < 0 ∧ ((10 + (10 * x1)) + (7 : Int32)).toNatClampNeg < 264))) (b13 : (¬ (f_X10_isScene ro x1) = 0) → (¬ (f_X10_in x2.toInt64 0 4) = 0) → (¬ x2 < 4) → (¬ x2 < 4) → (¬ x2 < 4) → ((¬ ((10 + (10 * x1)) + (7 : Int32)) < 0 ∧ ((10 + (10 * x1)) + (7 : Int32)).toNatClampNeg < 264))) : wX (d + 3) 182 [.ref 101, .int x1, .int x2, .int x3, .int x4] (mkH E ro) Q = Q (some (.int (f_X10_prop ro x1 x2 x3 x4))) (mkH E (g_X10_prop ro x1 x2 x3 x4)) := by
  show _ = Q (some (.int (if (f_X10_isScene ro x1) = 0 then f_X10_finds 1 else (if (f_X10_in x2.toInt64 0 4) = 0 then f_X10_finds 1 else (if x2 < 4 then (if (f_X10_in x3.toInt64 0 5) = 0 then f_X10_finds 1 else (if (f_X10_in x4.toInt64 0 5) = 0 then f_X10_finds 1 else (if x2 < 4 then (if x2 < 4 then 1 else 1) else (if x2 < 4 then 1 else 1)))) else (if x2 < 4 then (if x2 < 4 then 1 else 1) else (if x2 < 4 then 1 else 1))))))) (mkH E (if (f_X10_isScene ro x1) = 0 then (g_X10_finds ro 1) else (if (f_X10_in x2.toInt64 0 4) = 0 then (g_X10_finds ro 1) else (if x2 < 4 then (if (f_X10_in x3.toInt64 0 5) = 0 then (g_X10_finds ro 1) else (if (f_X10_in x4.toInt64 0 5) = 0 then (g_X10_finds ro 1) else (if x2 < 4 then (if x2 < 4 then (g_X10_puts (g_X10_puts (g_X10_puts ro x1 5 x2) x1 6 x3) x1 7 x4) else (g_X10_puts (g_X10_puts (g_X10_puts ro x1 5 x2) x1 6 x3) x1 7 0)) else (if x2 < 4 then (g_X10_puts (g_X10_puts (g_X10_puts ro x1 5 x2) x1 6 0) x1 7 x4) else (g_X10_puts (g_X10_puts (g_X10_puts ro x1 5 x2) x1 6 0) x1 7 0))))) else (if x2 < 4 then (if x2 < 4 then (g_X10_puts (g_X10_puts (g_X10_puts ro x1 5 x2) x1 6 x3) x1 7 x4) else (g_X10_puts (g_X10_puts (g_X10_puts ro x1 5 x2) x1 6 x3) x1 7 0)) else (if x2 < 4 then (g_X10_puts (g_X10_puts (g_X10_puts ro x1 5 x2) x1 6 0) x1 7 x4) else (g_X10_puts (g_X10_puts (g_X10_puts ro x1 5 x2) x1 6 0) x1 7 0)))))))
  refine (wX_in rfl (by decide)).trans ?_
  show wG (d + 2) 182 (0, [.ref 101, .int x1, .int x2, .int x3, .int x4, .retAddr 0], [], mkH E ro) Q = _
  refine (r_aload_n rfl rfl rfl).trans ?_
  refine (r_iload_n rfl rfl rfl).trans ?_
  refine (r_inv (m := 156) (c := 10) rfl rfl rfl rfl rfl rfl rfl rfl).trans ?_
  refine (x_X10_isScene (d := d) s_E).trans ?_
  show wG (d + 2) 182 (5, [.ref 101, .int x1, .int x2, .int x3, .int x4, .retAddr 0], [.int (f_X10_isScene ro x1)], mkH E ro) Q = _
  refine (r_if_eq rfl rfl rfl).trans ?_
  refine Eq.trans (ite_congr rfl (fun h_0 => ?_) (fun h_0 => ?_)) q_is
  · refine (r_iconst (v := 0) rfl rfl rfl).trans ?_
    refine (r_istore rfl rfl rfl rfl).trans ?_
    refine (r_iload rfl rfl rfl).trans ?_
    refine (r_if_eq rfl rfl rfl).trans ?_
    refine (if_pos (by decide)).trans ?_
    refine (r_aload_n rfl rfl rfl).trans ?_
    refine (r_iconst (v := 1) rfl rfl rfl).trans ?_
    refine (r_inv (m := 153) (c := 10) rfl rfl rfl rfl rfl rfl rfl rfl).trans ?_
    refine (x_X10_finds (d := d + 1) s_E (by decide)).trans ?_
    show wG (d + 2) 182 (67, [.ref 101, .int x1, .int x2, .int x3, .int x4, .int 0], [.int (f_X10_finds 1)], mkH E (g_X10_finds ro 1)) Q = _
    exact r_iret rfl rfl
  · refine (r_iload_n rfl rfl rfl).trans ?_
    refine (r_i2l rfl rfl).trans ?_
    refine (r_lconst (w := 0) rfl rfl rfl).trans ?_
    refine (r_ldc2_w (w := 4) rfl rfl rfl).trans ?_
    refine (r_ins (m := 154) rfl rfl rfl rfl rfl rfl).trans ?_
    refine (x_X10_in (d := d + 1) s_E).trans ?_
    show wG (d + 2) 182 (17, [.ref 101, .int x1, .int x2, .int x3, .int x4, .retAddr 0], [.int (f_X10_in x2.toInt64 0 4)], mkH E ro) Q = _
    refine (r_if_eq rfl rfl rfl).trans ?_
    refine Eq.trans (ite_congr rfl (fun h_1 => ?_) (fun h_1 => ?_)) q_is
    · refine (r_iconst (v := 0) rfl rfl rfl).trans ?_
      refine (r_istore rfl rfl rfl rfl).trans ?_
      refine (r_iload rfl rfl rfl).trans ?_
      refine (r_if_eq rfl rfl rfl).trans ?_
      refine (if_pos (by decide)).trans ?_
      refine (r_aload_n rfl rfl rfl).trans ?_
      refine (r_iconst (v := 1) rfl rfl rfl).trans ?_
      refine (r_inv (m := 153) (c := 10) rfl rfl rfl rfl rfl rfl rfl rfl).trans ?_
      refine (x_X10_finds (d := d + 1) s_E (by decide)).trans ?_
      show wG (d + 2) 182 (67, [.ref 101, .int x1, .int x2, .int x3, .int x4, .int 0], [.int (f_X10_finds 1)], mkH E (g_X10_finds ro 1)) Q = _
      exact r_iret rfl rfl
    · refine (r_iconst (v := 1) rfl rfl rfl).trans ?_
      refine (r_goto rfl rfl).trans ?_
      refine (r_istore rfl rfl rfl rfl).trans ?_
      refine (r_iload rfl rfl rfl).trans ?_
      refine (r_if_eq rfl rfl rfl).trans ?_
      refine (if_neg (by decide)).trans ?_
      refine (r_iload_n rfl rfl rfl).trans ?_
      refine (r_iconst (v := 4) rfl rfl rfl).trans ?_
      refine (r_icmp_ge rfl rfl rfl).trans ?_
      refine Eq.trans (ite_congr rfl (fun h_2 => ?_) (fun h_2 => ?_)) q_is
      · refine (r_iload_n rfl rfl rfl).trans ?_
        refine (r_i2l rfl rfl).trans ?_
        refine (r_lconst (w := 0) rfl rfl rfl).trans ?_
        refine (r_ldc2_w (w := 5) rfl rfl rfl).trans ?_
        refine (r_ins (m := 154) rfl rfl rfl rfl rfl rfl).trans ?_
        refine (x_X10_in (d := d + 1) s_E).trans ?_
        show wG (d + 2) 182 (46, [.ref 101, .int x1, .int x2, .int x3, .int x4, .int 1], [.int (f_X10_in x3.toInt64 0 5)], mkH E ro) Q = _
        refine (r_if_eq rfl rfl rfl).trans ?_
        refine Eq.trans (ite_congr rfl (fun h_3 => ?_) (fun h_3 => ?_)) q_is
        · refine (r_aload_n rfl rfl rfl).trans ?_
          refine (r_iconst (v := 1) rfl rfl rfl).trans ?_
          refine (r_inv (m := 153) (c := 10) rfl rfl rfl rfl rfl rfl rfl rfl).trans ?_
          refine (x_X10_finds (d := d + 1) s_E (by decide)).trans ?_
          show wG (d + 2) 182 (67, [.ref 101, .int x1, .int x2, .int x3, .int x4, .int 1], [.int (f_X10_finds 1)], mkH E (g_X10_finds ro 1)) Q = _
          exact r_iret rfl rfl
        · refine (r_iload rfl rfl rfl).trans ?_
          refine (r_i2l rfl rfl).trans ?_
          refine (r_lconst (w := 0) rfl rfl rfl).trans ?_
          refine (r_ldc2_w (w := 5) rfl rfl rfl).trans ?_
          refine (r_ins (m := 154) rfl rfl rfl rfl rfl rfl).trans ?_
          refine (x_X10_in (d := d + 1) s_E).trans ?_
          show wG (d + 2) 182 (59, [.ref 101, .int x1, .int x2, .int x3, .int x4, .int 1], [.int (f_X10_in x4.toInt64 0 5)], mkH E ro) Q = _
          refine (r_if_ne rfl rfl rfl).trans ?_
          refine Eq.trans (ite_congr rfl (fun h_4 => ?_) (fun h_4 => ?_)) q_is
          · refine (r_aload_n rfl rfl rfl).trans ?_
            refine (r_iconst (v := 1) rfl rfl rfl).trans ?_
            refine (r_inv (m := 153) (c := 10) rfl rfl rfl rfl rfl rfl rfl rfl).trans ?_
            refine (x_X10_finds (d := d + 1) s_E (by decide)).trans ?_
            show wG (d + 2) 182 (67, [.ref 101, .int x1, .int x2, .int x3, .int x4, .int 1], [.int (f_X10_finds 1)], mkH E (g_X10_finds ro 1)) Q = _
            exact r_iret rfl rfl
          · refine (r_aload_n rfl rfl rfl).trans ?_
            refine (r_iload_n rfl rfl rfl).trans ?_
            refine (r_iconst (v := 5) rfl rfl rfl).trans ?_
            refine (r_iload_n rfl rfl rfl).trans ?_
            refine (r_inv (m := 158) (c := 10) rfl rfl rfl rfl rfl rfl rfl rfl).trans ?_
            refine (x_X10_puts (d := d + 1) s_E (b0 h_0 h_1 h_2 h_3 h_4)).trans ?_
            show wG (d + 2) 182 (75, [.ref 101, .int x1, .int x2, .int x3, .int x4, .int 1], [], mkH E (g_X10_puts ro x1 5 x2)) Q = _
            refine (r_aload_n rfl rfl rfl).trans ?_
            refine (r_iload_n rfl rfl rfl).trans ?_
            refine (r_bipush (v := 6) rfl rfl rfl).trans ?_
            refine (r_iload_n rfl rfl rfl).trans ?_
            refine (r_iconst (v := 4) rfl rfl rfl).trans ?_
            refine (r_icmp_ge rfl rfl rfl).trans ?_
            refine Eq.trans (ite_congr rfl (fun h_5 => ?_) (fun h_5 => ?_)) q_is
            · refine (r_iload_n rfl rfl rfl).trans ?_
              refine (r_goto rfl rfl).trans ?_
              refine (r_inv (m := 158) (c := 10) rfl rfl rfl rfl rfl rfl rfl rfl).trans ?_
              refine (x_X10_puts (d := d + 1) s_E (b1 h_0 h_1 h_2 h_3 h_4 h_5)).trans ?_
              show wG (d + 2) 182 (92, [.ref 101, .int x1, .int x2, .int x3, .int x4, .int 1], [], mkH E (g_X10_puts (g_X10_puts ro x1 5 x2) x1 6 x3)) Q = _
              refine (r_aload_n rfl rfl rfl).trans ?_
              refine (r_iload_n rfl rfl rfl).trans ?_
              refine (r_bipush (v := 7) rfl rfl rfl).trans ?_
              refine (r_iload_n rfl rfl rfl).trans ?_
              refine (r_iconst (v := 4) rfl rfl rfl).trans ?_
              refine (r_icmp_ge rfl rfl rfl).trans ?_
              refine Eq.trans (ite_congr rfl (fun h_6 => ?_) (fun h_6 => ?_)) q_is
              · refine (r_iload rfl rfl rfl).trans ?_
                refine (r_goto rfl rfl).trans ?_
                refine (r_inv (m := 158) (c := 10) rfl rfl rfl rfl rfl rfl rfl rfl).trans ?_
                refine (x_X10_puts (d := d + 1) s_E (b2 h_0 h_1 h_2 h_3 h_4 h_5 h_6)).trans ?_
                show wG (d + 2) 182 (110, [.ref 101, .int x1, .int x2, .int x3, .int x4, .int 1], [], mkH E (g_X10_puts (g_X10_puts (g_X10_puts ro x1 5 x2) x1 6 x3) x1 7 x4)) Q = _
                refine (r_iconst (v := 1) rfl rfl rfl).trans ?_
                exact r_iret rfl rfl
              · refine (r_iconst (v := 0) rfl rfl rfl).trans ?_
                refine (r_inv (m := 158) (c := 10) rfl rfl rfl rfl rfl rfl rfl rfl).trans ?_
                refine (x_X10_puts (d := d + 1) s_E (b3 h_0 h_1 h_2 h_3 h_4 h_5 h_6)).trans ?_
                show wG (d + 2) 182 (110, [.ref 101, .int x1, .int x2, .int x3, .int x4, .int 1], [], mkH E (g_X10_puts (g_X10_puts (g_X10_puts ro x1 5 x2) x1 6 x3) x1 7 0)) Q = _
                refine (r_iconst (v := 1) rfl rfl rfl).trans ?_
                exact r_iret rfl rfl
            · refine (r_iconst (v := 0) rfl rfl rfl).trans ?_
              refine (r_inv (m := 158) (c := 10) rfl rfl rfl rfl rfl rfl rfl rfl).trans ?_
              refine (x_X10_puts (d := d + 1) s_E (b4 h_0 h_1 h_2 h_3 h_4 h_5)).trans ?_
              show wG (d + 2) 182 (92, [.ref 101, .int x1, .int x2, .int x3, .int x4, .int 1], [], mkH E (g_X10_puts (g_X10_puts ro x1 5 x2) x1 6 0)) Q = _
              refine (r_aload_n rfl rfl rfl).trans ?_
              refine (r_iload_n rfl rfl rfl).trans ?_
              refine (r_bipush (v := 7) rfl rfl rfl).trans ?_
              refine (r_iload_n rfl rfl rfl).trans ?_
              refine (r_iconst (v := 4) rfl rfl rfl).trans ?_
              refine (r_icmp_ge rfl rfl rfl).trans ?_
              refine Eq.trans (ite_congr rfl (fun h_6 => ?_) (fun h_6 => ?_)) q_is
              · refine (r_iload rfl rfl rfl).trans ?_
                refine (r_goto rfl rfl).trans ?_
                refine (r_inv (m := 158) (c := 10) rfl rfl rfl rfl rfl rfl rfl rfl).trans ?_
                refine (x_X10_puts (d := d + 1) s_E (b5 h_0 h_1 h_2 h_3 h_4 h_5 h_6)).trans ?_
                show wG (d + 2) 182 (110, [.ref 101, .int x1, .int x2, .int x3, .int x4, .int 1], [], mkH E (g_X10_puts (g_X10_puts (g_X10_puts ro x1 5 x2) x1 6 0) x1 7 x4)) Q = _
                refine (r_iconst (v := 1) rfl rfl rfl).trans ?_
                exact r_iret rfl rfl
              · refine (r_iconst (v := 0) rfl rfl rfl).trans ?_
                refine (r_inv (m := 158) (c := 10) rfl rfl rfl rfl rfl rfl rfl rfl).trans ?_
                refine (x_X10_puts (d := d + 1) s_E (b6 h_0 h_1 h_2 h_3 h_4 h_5 h_6)).trans ?_
                show wG (d + 2) 182 (110, [.ref 101, .int x1, .int x2, .int x3, .int x4, .int 1], [], mkH E (g_X10_puts (g_X10_puts (g_X10_puts ro x1 5 x2) x1 6 0) x1 7 0)) Q = _
                refine (r_iconst (v := 1) rfl rfl rfl).trans ?_
                exact r_iret rfl rfl
      · refine (r_aload_n rfl rfl rfl).trans ?_
        refine (r_iload_n rfl rfl rfl).trans ?_
        refine (r_iconst (v := 5) rfl rfl rfl).trans ?_
        refine (r_iload_n rfl rfl rfl).trans ?_
        refine (r_inv (m := 158) (c := 10) rfl rfl rfl rfl rfl rfl rfl rfl).trans ?_
        refine (x_X10_puts (d := d + 1) s_E (b7 h_0 h_1 h_2)).trans ?_
        show wG (d + 2) 182 (75, [.ref 101, .int x1, .int x2, .int x3, .int x4, .int 1], [], mkH E (g_X10_puts ro x1 5 x2)) Q = _
        refine (r_aload_n rfl rfl rfl).trans ?_
        refine (r_iload_n rfl rfl rfl).trans ?_
        refine (r_bipush (v := 6) rfl rfl rfl).trans ?_
        refine (r_iload_n rfl rfl rfl).trans ?_
        refine (r_iconst (v := 4) rfl rfl rfl).trans ?_
        refine (r_icmp_ge rfl rfl rfl).trans ?_
        refine Eq.trans (ite_congr rfl (fun h_3 => ?_) (fun h_3 => ?_)) q_is
        · refine (r_iload_n rfl rfl rfl).trans ?_
          refine (r_goto rfl rfl).trans ?_
          refine (r_inv (m := 158) (c := 10) rfl rfl rfl rfl rfl rfl rfl rfl).trans ?_
          refine (x_X10_puts (d := d + 1) s_E (b8 h_0 h_1 h_2 h_3)).trans ?_
          show wG (d + 2) 182 (92, [.ref 101, .int x1, .int x2, .int x3, .int x4, .int 1], [], mkH E (g_X10_puts (g_X10_puts ro x1 5 x2) x1 6 x3)) Q = _
          refine (r_aload_n rfl rfl rfl).trans ?_
          refine (r_iload_n rfl rfl rfl).trans ?_
          refine (r_bipush (v := 7) rfl rfl rfl).trans ?_
          refine (r_iload_n rfl rfl rfl).trans ?_
          refine (r_iconst (v := 4) rfl rfl rfl).trans ?_
          refine (r_icmp_ge rfl rfl rfl).trans ?_
          refine Eq.trans (ite_congr rfl (fun h_4 => ?_) (fun h_4 => ?_)) q_is
          · refine (r_iload rfl rfl rfl).trans ?_
            refine (r_goto rfl rfl).trans ?_
            refine (r_inv (m := 158) (c := 10) rfl rfl rfl rfl rfl rfl rfl rfl).trans ?_
            refine (x_X10_puts (d := d + 1) s_E (b9 h_0 h_1 h_2 h_3 h_4)).trans ?_
            show wG (d + 2) 182 (110, [.ref 101, .int x1, .int x2, .int x3, .int x4, .int 1], [], mkH E (g_X10_puts (g_X10_puts (g_X10_puts ro x1 5 x2) x1 6 x3) x1 7 x4)) Q = _
            refine (r_iconst (v := 1) rfl rfl rfl).trans ?_
            exact r_iret rfl rfl
          · refine (r_iconst (v := 0) rfl rfl rfl).trans ?_
            refine (r_inv (m := 158) (c := 10) rfl rfl rfl rfl rfl rfl rfl rfl).trans ?_
            refine (x_X10_puts (d := d + 1) s_E (b10 h_0 h_1 h_2 h_3 h_4)).trans ?_
            show wG (d + 2) 182 (110, [.ref 101, .int x1, .int x2, .int x3, .int x4, .int 1], [], mkH E (g_X10_puts (g_X10_puts (g_X10_puts ro x1 5 x2) x1 6 x3) x1 7 0)) Q = _
            refine (r_iconst (v := 1) rfl rfl rfl).trans ?_
            exact r_iret rfl rfl
        · refine (r_iconst (v := 0) rfl rfl rfl).trans ?_
          refine (r_inv (m := 158) (c := 10) rfl rfl rfl rfl rfl rfl rfl rfl).trans ?_
          refine (x_X10_puts (d := d + 1) s_E (b11 h_0 h_1 h_2 h_3)).trans ?_
          show wG (d + 2) 182 (92, [.ref 101, .int x1, .int x2, .int x3, .int x4, .int 1], [], mkH E (g_X10_puts (g_X10_puts ro x1 5 x2) x1 6 0)) Q = _
          refine (r_aload_n rfl rfl rfl).trans ?_
          refine (r_iload_n rfl rfl rfl).trans ?_
          refine (r_bipush (v := 7) rfl rfl rfl).trans ?_
          refine (r_iload_n rfl rfl rfl).trans ?_
          refine (r_iconst (v := 4) rfl rfl rfl).trans ?_
          refine (r_icmp_ge rfl rfl rfl).trans ?_
          refine Eq.trans (ite_congr rfl (fun h_4 => ?_) (fun h_4 => ?_)) q_is
          · refine (r_iload rfl rfl rfl).trans ?_
            refine (r_goto rfl rfl).trans ?_
            refine (r_inv (m := 158) (c := 10) rfl rfl rfl rfl rfl rfl rfl rfl).trans ?_
            refine (x_X10_puts (d := d + 1) s_E (b12 h_0 h_1 h_2 h_3 h_4)).trans ?_
            show wG (d + 2) 182 (110, [.ref 101, .int x1, .int x2, .int x3, .int x4, .int 1], [], mkH E (g_X10_puts (g_X10_puts (g_X10_puts ro x1 5 x2) x1 6 0) x1 7 x4)) Q = _
            refine (r_iconst (v := 1) rfl rfl rfl).trans ?_
            exact r_iret rfl rfl
          · refine (r_iconst (v := 0) rfl rfl rfl).trans ?_
            refine (r_inv (m := 158) (c := 10) rfl rfl rfl rfl rfl rfl rfl rfl).trans ?_
            refine (x_X10_puts (d := d + 1) s_E (b13 h_0 h_1 h_2 h_3 h_4)).trans ?_
            show wG (d + 2) 182 (110, [.ref 101, .int x1, .int x2, .int x3, .int x4, .int 1], [], mkH E (g_X10_puts (g_X10_puts (g_X10_puts ro x1 5 x2) x1 6 0) x1 7 0)) Q = _
            refine (r_iconst (v := 1) rfl rfl rfl).trans ?_
            exact r_iret rfl rfl

def f_X10_become (ro : Nat → Nat → Int32) (x1 : Int32) (x2 : Int32) : Int32 := (if (f_X10_isScene ro x1) = 0 then f_X10_finds 1 else (if (f_X10_in x2.toInt64 0 69) = 0 then f_X10_finds 1 else f_X10_its ro x1 0))
def g_X10_become (ro : Nat → Nat → Int32) (x1 : Int32) (x2 : Int32) : Nat → Nat → Int32 := (if (f_X10_isScene ro x1) = 0 then (g_X10_finds ro 1) else (if (f_X10_in x2.toInt64 0 69) = 0 then (g_X10_finds ro 1) else (g_X10_puts (g_X10_puts ro x1 0 (x2 / 10)) x1 1 (x2 - x2 / 10 * 10))))
theorem x_X10_become {d : Nat} {E : pEv} {ro : Nat → Nat → Int32} {Q : Option Value → pH → Prop} (s_E : oE E) {x1 : Int32} {x2 : Int32} (b0 : (¬ (f_X10_isScene ro x1) = 0) → (¬ (f_X10_in x2.toInt64 0 69) = 0) → ((¬ ((10 + (10 * x1)) + (0 : Int32)) < 0 ∧ ((10 + (10 * x1)) + (0 : Int32)).toNatClampNeg < 264))) (b1 : (¬ (f_X10_isScene ro x1) = 0) → (¬ (f_X10_in x2.toInt64 0 69) = 0) → ((¬ ((10 + (10 * x1)) + (1 : Int32)) < 0 ∧ ((10 + (10 * x1)) + (1 : Int32)).toNatClampNeg < 264))) : wX (d + 3) 184 [.ref 101, .int x1, .int x2] (mkH E ro) Q = Q (some (.int (f_X10_become ro x1 x2))) (mkH E (g_X10_become ro x1 x2)) := by
  show _ = Q (some (.int (if (f_X10_isScene ro x1) = 0 then f_X10_finds 1 else (if (f_X10_in x2.toInt64 0 69) = 0 then f_X10_finds 1 else f_X10_its ro x1 0)))) (mkH E (if (f_X10_isScene ro x1) = 0 then (g_X10_finds ro 1) else (if (f_X10_in x2.toInt64 0 69) = 0 then (g_X10_finds ro 1) else (g_X10_puts (g_X10_puts ro x1 0 (x2 / 10)) x1 1 (x2 - x2 / 10 * 10)))))
  refine (wX_in rfl (by decide)).trans ?_
  show wG (d + 2) 184 (0, [.ref 101, .int x1, .int x2, .retAddr 0], [], mkH E ro) Q = _
  refine (r_aload_n rfl rfl rfl).trans ?_
  refine (r_iload_n rfl rfl rfl).trans ?_
  refine (r_inv (m := 156) (c := 10) rfl rfl rfl rfl rfl rfl rfl rfl).trans ?_
  refine (x_X10_isScene (d := d) s_E).trans ?_
  show wG (d + 2) 184 (5, [.ref 101, .int x1, .int x2, .retAddr 0], [.int (f_X10_isScene ro x1)], mkH E ro) Q = _
  refine (r_if_eq rfl rfl rfl).trans ?_
  refine Eq.trans (ite_congr rfl (fun h_0 => ?_) (fun h_0 => ?_)) q_is
  · refine (r_aload_n rfl rfl rfl).trans ?_
    refine (r_iconst (v := 1) rfl rfl rfl).trans ?_
    refine (r_inv (m := 153) (c := 10) rfl rfl rfl rfl rfl rfl rfl rfl).trans ?_
    refine (x_X10_finds (d := d + 1) s_E (by decide)).trans ?_
    show wG (d + 2) 184 (25, [.ref 101, .int x1, .int x2, .retAddr 0], [.int (f_X10_finds 1)], mkH E (g_X10_finds ro 1)) Q = _
    exact r_iret rfl rfl
  · refine (r_iload_n rfl rfl rfl).trans ?_
    refine (r_i2l rfl rfl).trans ?_
    refine (r_lconst (w := 0) rfl rfl rfl).trans ?_
    refine (r_ldc2_w (w := 69) rfl rfl rfl).trans ?_
    refine (r_ins (m := 154) rfl rfl rfl rfl rfl rfl).trans ?_
    refine (x_X10_in (d := d + 1) s_E).trans ?_
    show wG (d + 2) 184 (17, [.ref 101, .int x1, .int x2, .retAddr 0], [.int (f_X10_in x2.toInt64 0 69)], mkH E ro) Q = _
    refine (r_if_ne rfl rfl rfl).trans ?_
    refine Eq.trans (ite_congr rfl (fun h_1 => ?_) (fun h_1 => ?_)) q_is
    · refine (r_aload_n rfl rfl rfl).trans ?_
      refine (r_iconst (v := 1) rfl rfl rfl).trans ?_
      refine (r_inv (m := 153) (c := 10) rfl rfl rfl rfl rfl rfl rfl rfl).trans ?_
      refine (x_X10_finds (d := d + 1) s_E (by decide)).trans ?_
      show wG (d + 2) 184 (25, [.ref 101, .int x1, .int x2, .retAddr 0], [.int (f_X10_finds 1)], mkH E (g_X10_finds ro 1)) Q = _
      exact r_iret rfl rfl
    · refine (r_aload_n rfl rfl rfl).trans ?_
      refine (r_iload_n rfl rfl rfl).trans ?_
      refine (r_iconst (v := 0) rfl rfl rfl).trans ?_
      refine (r_inv (m := 157) (c := 10) rfl rfl rfl rfl rfl rfl rfl rfl).trans ?_
      refine (x_X10_its (d := d + 1) s_E (b0 h_0 h_1)).trans ?_
      show wG (d + 2) 184 (32, [.ref 101, .int x1, .int x2, .retAddr 0], [.int (f_X10_its ro x1 0)], mkH E ro) Q = _
      refine (r_istore_n rfl rfl rfl rfl).trans ?_
      refine (r_aload_n rfl rfl rfl).trans ?_
      refine (r_iload_n rfl rfl rfl).trans ?_
      refine (r_iconst (v := 0) rfl rfl rfl).trans ?_
      refine (r_iload_n rfl rfl rfl).trans ?_
      refine (r_bipush (v := 10) rfl rfl rfl).trans ?_
      refine (r_idiv rfl rfl (by decide)).trans ?_
      refine (r_inv (m := 158) (c := 10) rfl rfl rfl rfl rfl rfl rfl rfl).trans ?_
      refine (x_X10_puts (d := d + 1) s_E (b0 h_0 h_1)).trans ?_
      show wG (d + 2) 184 (43, [.ref 101, .int x1, .int x2, .int (f_X10_its ro x1 0)], [], mkH E (g_X10_puts ro x1 0 (x2 / 10))) Q = _
      refine (r_aload_n rfl rfl rfl).trans ?_
      refine (r_iload_n rfl rfl rfl).trans ?_
      refine (r_iconst (v := 1) rfl rfl rfl).trans ?_
      refine (r_iload_n rfl rfl rfl).trans ?_
      refine (r_bipush (v := 10) rfl rfl rfl).trans ?_
      refine (r_irem rfl rfl (by decide)).trans ?_
      refine (r_inv (m := 158) (c := 10) rfl rfl rfl rfl rfl rfl rfl rfl).trans ?_
      refine (x_X10_puts (d := d + 1) s_E (b1 h_0 h_1)).trans ?_
      show wG (d + 2) 184 (53, [.ref 101, .int x1, .int x2, .int (f_X10_its ro x1 0)], [], mkH E (g_X10_puts (g_X10_puts ro x1 0 (x2 / 10)) x1 1 (x2 - x2 / 10 * 10))) Q = _
      refine (r_iload_n rfl rfl rfl).trans ?_
      exact r_iret rfl rfl

def f_X10_as (ro : Nat → Nat → Int32) (x1 : Int32) (x2 : Int32) : Int32 := (if (f_X10_isScene ro x1) = 0 then f_X10_finds 1 else (if (f_X10_in x2.toInt64 0 6) = 0 then f_X10_finds 1 else (if x2 = 0 then f_X10_its ro x1 1 else (if x2 = (f_X10_its ro x1 0) then f_X10_its ro x1 1 else (if x2 = (f_X10_above (f_X10_its ro x1 0)) then f_X10_its ro x1 1 else f_X10_finds 5)))))
def g_X10_as (ro : Nat → Nat → Int32) (x1 : Int32) (x2 : Int32) : Nat → Nat → Int32 := (if (f_X10_isScene ro x1) = 0 then (g_X10_finds ro 1) else (if (f_X10_in x2.toInt64 0 6) = 0 then (g_X10_finds ro 1) else (if x2 = 0 then ro else (if x2 = (f_X10_its ro x1 0) then ro else (if x2 = (f_X10_above (f_X10_its ro x1 0)) then ro else (g_X10_finds ro 5))))))
theorem x_X10_as {d : Nat} {E : pEv} {ro : Nat → Nat → Int32} {Q : Option Value → pH → Prop} (s_E : oE E) {x1 : Int32} {x2 : Int32} (b0 : (¬ (f_X10_isScene ro x1) = 0) → (¬ (f_X10_in x2.toInt64 0 6) = 0) → ((¬ ((10 + (10 * x1)) + (0 : Int32)) < 0 ∧ ((10 + (10 * x1)) + (0 : Int32)).toNatClampNeg < 264))) (b1 : (¬ (f_X10_isScene ro x1) = 0) → (¬ (f_X10_in x2.toInt64 0 6) = 0) → (x2 = 0) → ((¬ ((10 + (10 * x1)) + (1 : Int32)) < 0 ∧ ((10 + (10 * x1)) + (1 : Int32)).toNatClampNeg < 264))) (b2 : (¬ (f_X10_isScene ro x1) = 0) → (¬ (f_X10_in x2.toInt64 0 6) = 0) → (¬ x2 = 0) → (x2 = (f_X10_its ro x1 0)) → ((¬ ((10 + (10 * x1)) + (1 : Int32)) < 0 ∧ ((10 + (10 * x1)) + (1 : Int32)).toNatClampNeg < 264))) (b3 : (¬ (f_X10_isScene ro x1) = 0) → (¬ (f_X10_in x2.toInt64 0 6) = 0) → (¬ x2 = 0) → (¬ x2 = (f_X10_its ro x1 0)) → (x2 = (f_X10_above (f_X10_its ro x1 0))) → ((¬ ((10 + (10 * x1)) + (1 : Int32)) < 0 ∧ ((10 + (10 * x1)) + (1 : Int32)).toNatClampNeg < 264))) : wX (d + 3) 185 [.ref 101, .int x1, .int x2] (mkH E ro) Q = Q (some (.int (f_X10_as ro x1 x2))) (mkH E (g_X10_as ro x1 x2)) := by
  show _ = Q (some (.int (if (f_X10_isScene ro x1) = 0 then f_X10_finds 1 else (if (f_X10_in x2.toInt64 0 6) = 0 then f_X10_finds 1 else (if x2 = 0 then f_X10_its ro x1 1 else (if x2 = (f_X10_its ro x1 0) then f_X10_its ro x1 1 else (if x2 = (f_X10_above (f_X10_its ro x1 0)) then f_X10_its ro x1 1 else f_X10_finds 5))))))) (mkH E (if (f_X10_isScene ro x1) = 0 then (g_X10_finds ro 1) else (if (f_X10_in x2.toInt64 0 6) = 0 then (g_X10_finds ro 1) else (if x2 = 0 then ro else (if x2 = (f_X10_its ro x1 0) then ro else (if x2 = (f_X10_above (f_X10_its ro x1 0)) then ro else (g_X10_finds ro 5)))))))
  refine (wX_in rfl (by decide)).trans ?_
  show wG (d + 2) 185 (0, [.ref 101, .int x1, .int x2, .retAddr 0], [], mkH E ro) Q = _
  refine (r_aload_n rfl rfl rfl).trans ?_
  refine (r_iload_n rfl rfl rfl).trans ?_
  refine (r_inv (m := 156) (c := 10) rfl rfl rfl rfl rfl rfl rfl rfl).trans ?_
  refine (x_X10_isScene (d := d) s_E).trans ?_
  show wG (d + 2) 185 (5, [.ref 101, .int x1, .int x2, .retAddr 0], [.int (f_X10_isScene ro x1)], mkH E ro) Q = _
  refine (r_if_eq rfl rfl rfl).trans ?_
  refine Eq.trans (ite_congr rfl (fun h_0 => ?_) (fun h_0 => ?_)) q_is
  · refine (r_aload_n rfl rfl rfl).trans ?_
    refine (r_iconst (v := 1) rfl rfl rfl).trans ?_
    refine (r_inv (m := 153) (c := 10) rfl rfl rfl rfl rfl rfl rfl rfl).trans ?_
    refine (x_X10_finds (d := d + 1) s_E (by decide)).trans ?_
    show wG (d + 2) 185 (25, [.ref 101, .int x1, .int x2, .retAddr 0], [.int (f_X10_finds 1)], mkH E (g_X10_finds ro 1)) Q = _
    exact r_iret rfl rfl
  · refine (r_iload_n rfl rfl rfl).trans ?_
    refine (r_i2l rfl rfl).trans ?_
    refine (r_lconst (w := 0) rfl rfl rfl).trans ?_
    refine (r_ldc2_w (w := 6) rfl rfl rfl).trans ?_
    refine (r_ins (m := 154) rfl rfl rfl rfl rfl rfl).trans ?_
    refine (x_X10_in (d := d + 1) s_E).trans ?_
    show wG (d + 2) 185 (17, [.ref 101, .int x1, .int x2, .retAddr 0], [.int (f_X10_in x2.toInt64 0 6)], mkH E ro) Q = _
    refine (r_if_ne rfl rfl rfl).trans ?_
    refine Eq.trans (ite_congr rfl (fun h_1 => ?_) (fun h_1 => ?_)) q_is
    · refine (r_aload_n rfl rfl rfl).trans ?_
      refine (r_iconst (v := 1) rfl rfl rfl).trans ?_
      refine (r_inv (m := 153) (c := 10) rfl rfl rfl rfl rfl rfl rfl rfl).trans ?_
      refine (x_X10_finds (d := d + 1) s_E (by decide)).trans ?_
      show wG (d + 2) 185 (25, [.ref 101, .int x1, .int x2, .retAddr 0], [.int (f_X10_finds 1)], mkH E (g_X10_finds ro 1)) Q = _
      exact r_iret rfl rfl
    · refine (r_aload_n rfl rfl rfl).trans ?_
      refine (r_iload_n rfl rfl rfl).trans ?_
      refine (r_iconst (v := 0) rfl rfl rfl).trans ?_
      refine (r_inv (m := 157) (c := 10) rfl rfl rfl rfl rfl rfl rfl rfl).trans ?_
      refine (x_X10_its (d := d + 1) s_E (b0 h_0 h_1)).trans ?_
      show wG (d + 2) 185 (32, [.ref 101, .int x1, .int x2, .retAddr 0], [.int (f_X10_its ro x1 0)], mkH E ro) Q = _
      refine (r_istore_n rfl rfl rfl rfl).trans ?_
      refine (r_iload_n rfl rfl rfl).trans ?_
      refine (r_if_eq rfl rfl rfl).trans ?_
      refine Eq.trans (ite_congr rfl (fun h_2 => ?_) (fun h_2 => ?_)) q_is
      · refine (r_aload_n rfl rfl rfl).trans ?_
        refine (r_iload_n rfl rfl rfl).trans ?_
        refine (r_iconst (v := 1) rfl rfl rfl).trans ?_
        refine (r_inv (m := 157) (c := 10) rfl rfl rfl rfl rfl rfl rfl rfl).trans ?_
        refine (x_X10_its (d := d + 1) s_E (b1 h_0 h_1 h_2)).trans ?_
        show wG (d + 2) 185 (56, [.ref 101, .int x1, .int x2, .int (f_X10_its ro x1 0)], [.int (f_X10_its ro x1 1)], mkH E ro) Q = _
        refine (r_goto rfl rfl).trans ?_
        exact r_iret rfl rfl
      · refine (r_iload_n rfl rfl rfl).trans ?_
        refine (r_iload_n rfl rfl rfl).trans ?_
        refine (r_icmp_eq rfl rfl rfl).trans ?_
        refine Eq.trans (ite_congr rfl (fun h_3 => ?_) (fun h_3 => ?_)) q_is
        · refine (r_aload_n rfl rfl rfl).trans ?_
          refine (r_iload_n rfl rfl rfl).trans ?_
          refine (r_iconst (v := 1) rfl rfl rfl).trans ?_
          refine (r_inv (m := 157) (c := 10) rfl rfl rfl rfl rfl rfl rfl rfl).trans ?_
          refine (x_X10_its (d := d + 1) s_E (b2 h_0 h_1 h_2 h_3)).trans ?_
          show wG (d + 2) 185 (56, [.ref 101, .int x1, .int x2, .int (f_X10_its ro x1 0)], [.int (f_X10_its ro x1 1)], mkH E ro) Q = _
          refine (r_goto rfl rfl).trans ?_
          exact r_iret rfl rfl
        · refine (r_iload_n rfl rfl rfl).trans ?_
          refine (r_iload_n rfl rfl rfl).trans ?_
          refine (r_ins (m := 175) rfl rfl rfl rfl rfl rfl).trans ?_
          refine (x_X10_above (d := d + 1) s_E).trans ?_
          show wG (d + 2) 185 (47, [.ref 101, .int x1, .int x2, .int (f_X10_its ro x1 0)], [.int (f_X10_above (f_X10_its ro x1 0)), .int x2], mkH E ro) Q = _
          refine (r_icmp_ne rfl rfl rfl).trans ?_
          refine Eq.trans (ite_congr rfl (fun h_4 => ?_) (fun h_4 => ?_)) q_is
          · refine (r_aload_n rfl rfl rfl).trans ?_
            refine (r_iload_n rfl rfl rfl).trans ?_
            refine (r_iconst (v := 1) rfl rfl rfl).trans ?_
            refine (r_inv (m := 157) (c := 10) rfl rfl rfl rfl rfl rfl rfl rfl).trans ?_
            refine (x_X10_its (d := d + 1) s_E (b3 h_0 h_1 h_2 h_3 h_4)).trans ?_
            show wG (d + 2) 185 (56, [.ref 101, .int x1, .int x2, .int (f_X10_its ro x1 0)], [.int (f_X10_its ro x1 1)], mkH E ro) Q = _
            refine (r_goto rfl rfl).trans ?_
            exact r_iret rfl rfl
          · refine (r_aload_n rfl rfl rfl).trans ?_
            refine (r_iconst (v := 5) rfl rfl rfl).trans ?_
            refine (r_inv (m := 153) (c := 10) rfl rfl rfl rfl rfl rfl rfl rfl).trans ?_
            refine (x_X10_finds (d := d + 1) s_E (by decide)).trans ?_
            show wG (d + 2) 185 (64, [.ref 101, .int x1, .int x2, .int (f_X10_its ro x1 0)], [.int (f_X10_finds 5)], mkH E (g_X10_finds ro 5)) Q = _
            exact r_iret rfl rfl

def f_X10_set (ro : Nat → Nat → Int32) (x1 : Int32) (x2 : Int32) (x3 : Int32) : Int32 := (if x2 = 3 then (if (f_X10_isScene ro x1) = 0 then f_X10_finds 1 else (if (f_X10_in x3.toInt64 1 30) = 0 then f_X10_finds 1 else (if x2 = 6 then f_X10_its ro x1 8 else f_X10_its ro x1 x2))) else (if x2 = 4 then (if (f_X10_isScene ro x1) = 0 then f_X10_finds 1 else (if (f_X10_in x3.toInt64 0 63) = 0 then f_X10_finds 1 else (if x2 = 6 then f_X10_its ro x1 8 else f_X10_its ro x1 x2))) else (if x2 = 6 then (if (f_X10_in x3.toInt64 0 1) = 0 then (if (f_X10_isScene ro x1) = 0 then f_X10_finds 1 else f_X10_finds 1) else (if (f_X10_isScene ro x1) = 0 then f_X10_finds 1 else (if x2 = 6 then f_X10_its ro x1 8 else f_X10_its ro x1 x2))) else (if (f_X10_isScene ro x1) = 0 then f_X10_finds 1 else f_X10_finds 1))))
def g_X10_set (ro : Nat → Nat → Int32) (x1 : Int32) (x2 : Int32) (x3 : Int32) : Nat → Nat → Int32 := (if x2 = 3 then (if (f_X10_isScene ro x1) = 0 then (g_X10_finds ro 1) else (if (f_X10_in x3.toInt64 1 30) = 0 then (g_X10_finds ro 1) else (if x2 = 6 then (g_X10_puts ro x1 8 x3) else (g_X10_puts ro x1 x2 x3)))) else (if x2 = 4 then (if (f_X10_isScene ro x1) = 0 then (g_X10_finds ro 1) else (if (f_X10_in x3.toInt64 0 63) = 0 then (g_X10_finds ro 1) else (if x2 = 6 then (g_X10_puts ro x1 8 x3) else (g_X10_puts ro x1 x2 x3)))) else (if x2 = 6 then (if (f_X10_in x3.toInt64 0 1) = 0 then (if (f_X10_isScene ro x1) = 0 then (g_X10_finds ro 1) else (g_X10_finds ro 1)) else (if (f_X10_isScene ro x1) = 0 then (g_X10_finds ro 1) else (if x2 = 6 then (g_X10_puts ro x1 8 x3) else (g_X10_puts ro x1 x2 x3)))) else (if (f_X10_isScene ro x1) = 0 then (g_X10_finds ro 1) else (g_X10_finds ro 1)))))
theorem x_X10_set {d : Nat} {E : pEv} {ro : Nat → Nat → Int32} {Q : Option Value → pH → Prop} (s_E : oE E) {x1 : Int32} {x2 : Int32} {x3 : Int32} (b0 : (x2 = 3) → (¬ (f_X10_isScene ro x1) = 0) → (¬ (f_X10_in x3.toInt64 1 30) = 0) → (x2 = 6) → ((¬ ((10 + (10 * x1)) + (8 : Int32)) < 0 ∧ ((10 + (10 * x1)) + (8 : Int32)).toNatClampNeg < 264))) (b1 : (x2 = 3) → (¬ (f_X10_isScene ro x1) = 0) → (¬ (f_X10_in x3.toInt64 1 30) = 0) → (¬ x2 = 6) → ((¬ ((10 + (10 * x1)) + x2) < 0 ∧ ((10 + (10 * x1)) + x2).toNatClampNeg < 264))) (b2 : (¬ x2 = 3) → (x2 = 4) → (¬ (f_X10_isScene ro x1) = 0) → (¬ (f_X10_in x3.toInt64 0 63) = 0) → (x2 = 6) → ((¬ ((10 + (10 * x1)) + (8 : Int32)) < 0 ∧ ((10 + (10 * x1)) + (8 : Int32)).toNatClampNeg < 264))) (b3 : (¬ x2 = 3) → (x2 = 4) → (¬ (f_X10_isScene ro x1) = 0) → (¬ (f_X10_in x3.toInt64 0 63) = 0) → (¬ x2 = 6) → ((¬ ((10 + (10 * x1)) + x2) < 0 ∧ ((10 + (10 * x1)) + x2).toNatClampNeg < 264))) (b4 : (¬ x2 = 3) → (¬ x2 = 4) → (x2 = 6) → (¬ (f_X10_in x3.toInt64 0 1) = 0) → (¬ (f_X10_isScene ro x1) = 0) → (x2 = 6) → ((¬ ((10 + (10 * x1)) + (8 : Int32)) < 0 ∧ ((10 + (10 * x1)) + (8 : Int32)).toNatClampNeg < 264))) (b5 : (¬ x2 = 3) → (¬ x2 = 4) → (x2 = 6) → (¬ (f_X10_in x3.toInt64 0 1) = 0) → (¬ (f_X10_isScene ro x1) = 0) → (¬ x2 = 6) → ((¬ ((10 + (10 * x1)) + x2) < 0 ∧ ((10 + (10 * x1)) + x2).toNatClampNeg < 264))) : wX (d + 3) 186 [.ref 101, .int x1, .int x2, .int x3] (mkH E ro) Q = Q (some (.int (f_X10_set ro x1 x2 x3))) (mkH E (g_X10_set ro x1 x2 x3)) := by
  show _ = Q (some (.int (if x2 = 3 then (if (f_X10_isScene ro x1) = 0 then f_X10_finds 1 else (if (f_X10_in x3.toInt64 1 30) = 0 then f_X10_finds 1 else (if x2 = 6 then f_X10_its ro x1 8 else f_X10_its ro x1 x2))) else (if x2 = 4 then (if (f_X10_isScene ro x1) = 0 then f_X10_finds 1 else (if (f_X10_in x3.toInt64 0 63) = 0 then f_X10_finds 1 else (if x2 = 6 then f_X10_its ro x1 8 else f_X10_its ro x1 x2))) else (if x2 = 6 then (if (f_X10_in x3.toInt64 0 1) = 0 then (if (f_X10_isScene ro x1) = 0 then f_X10_finds 1 else f_X10_finds 1) else (if (f_X10_isScene ro x1) = 0 then f_X10_finds 1 else (if x2 = 6 then f_X10_its ro x1 8 else f_X10_its ro x1 x2))) else (if (f_X10_isScene ro x1) = 0 then f_X10_finds 1 else f_X10_finds 1)))))) (mkH E (if x2 = 3 then (if (f_X10_isScene ro x1) = 0 then (g_X10_finds ro 1) else (if (f_X10_in x3.toInt64 1 30) = 0 then (g_X10_finds ro 1) else (if x2 = 6 then (g_X10_puts ro x1 8 x3) else (g_X10_puts ro x1 x2 x3)))) else (if x2 = 4 then (if (f_X10_isScene ro x1) = 0 then (g_X10_finds ro 1) else (if (f_X10_in x3.toInt64 0 63) = 0 then (g_X10_finds ro 1) else (if x2 = 6 then (g_X10_puts ro x1 8 x3) else (g_X10_puts ro x1 x2 x3)))) else (if x2 = 6 then (if (f_X10_in x3.toInt64 0 1) = 0 then (if (f_X10_isScene ro x1) = 0 then (g_X10_finds ro 1) else (g_X10_finds ro 1)) else (if (f_X10_isScene ro x1) = 0 then (g_X10_finds ro 1) else (if x2 = 6 then (g_X10_puts ro x1 8 x3) else (g_X10_puts ro x1 x2 x3)))) else (if (f_X10_isScene ro x1) = 0 then (g_X10_finds ro 1) else (g_X10_finds ro 1))))))
  refine (wX_in rfl (by decide)).trans ?_
  show wG (d + 2) 186 (0, [.ref 101, .int x1, .int x2, .int x3, .retAddr 0, .retAddr 0, .retAddr 0], [], mkH E ro) Q = _
  refine (r_iload_n rfl rfl rfl).trans ?_
  refine (r_iconst (v := 3) rfl rfl rfl).trans ?_
  refine (r_icmp_ne rfl rfl rfl).trans ?_
  refine Eq.trans (ite_congr rfl (fun h_0 => ?_) (fun h_0 => ?_)) q_is
  · refine (r_iload_n rfl rfl rfl).trans ?_
    refine (r_i2l rfl rfl).trans ?_
    refine (r_lconst (w := 1) rfl rfl rfl).trans ?_
    refine (r_ldc2_w (w := 30) rfl rfl rfl).trans ?_
    refine (r_ins (m := 154) rfl rfl rfl rfl rfl rfl).trans ?_
    refine (x_X10_in (d := d + 1) s_E).trans ?_
    show wG (d + 2) 186 (14, [.ref 101, .int x1, .int x2, .int x3, .retAddr 0, .retAddr 0, .retAddr 0], [.int (f_X10_in x3.toInt64 1 30)], mkH E ro) Q = _
    refine (r_goto rfl rfl).trans ?_
    refine (r_istore rfl rfl rfl rfl).trans ?_
    refine (r_aload_n rfl rfl rfl).trans ?_
    refine (r_iload_n rfl rfl rfl).trans ?_
    refine (r_inv (m := 156) (c := 10) rfl rfl rfl rfl rfl rfl rfl rfl).trans ?_
    refine (x_X10_isScene (d := d) s_E).trans ?_
    show wG (d + 2) 186 (62, [.ref 101, .int x1, .int x2, .int x3, .int (f_X10_in x3.toInt64 1 30), .retAddr 0, .retAddr 0], [.int (f_X10_isScene ro x1)], mkH E ro) Q = _
    refine (r_if_eq rfl rfl rfl).trans ?_
    refine Eq.trans (ite_congr rfl (fun h_1 => ?_) (fun h_1 => ?_)) q_is
    · refine (r_aload_n rfl rfl rfl).trans ?_
      refine (r_iconst (v := 1) rfl rfl rfl).trans ?_
      refine (r_inv (m := 153) (c := 10) rfl rfl rfl rfl rfl rfl rfl rfl).trans ?_
      refine (x_X10_finds (d := d + 1) s_E (by decide)).trans ?_
      show wG (d + 2) 186 (75, [.ref 101, .int x1, .int x2, .int x3, .int (f_X10_in x3.toInt64 1 30), .retAddr 0, .retAddr 0], [.int (f_X10_finds 1)], mkH E (g_X10_finds ro 1)) Q = _
      exact r_iret rfl rfl
    · refine (r_iload rfl rfl rfl).trans ?_
      refine (r_if_ne rfl rfl rfl).trans ?_
      refine Eq.trans (ite_congr rfl (fun h_2 => ?_) (fun h_2 => ?_)) q_is
      · refine (r_aload_n rfl rfl rfl).trans ?_
        refine (r_iconst (v := 1) rfl rfl rfl).trans ?_
        refine (r_inv (m := 153) (c := 10) rfl rfl rfl rfl rfl rfl rfl rfl).trans ?_
        refine (x_X10_finds (d := d + 1) s_E (by decide)).trans ?_
        show wG (d + 2) 186 (75, [.ref 101, .int x1, .int x2, .int x3, .int (f_X10_in x3.toInt64 1 30), .retAddr 0, .retAddr 0], [.int (f_X10_finds 1)], mkH E (g_X10_finds ro 1)) Q = _
        exact r_iret rfl rfl
      · refine (r_iload_n rfl rfl rfl).trans ?_
        refine (r_bipush (v := 6) rfl rfl rfl).trans ?_
        refine (r_icmp_ne rfl rfl rfl).trans ?_
        refine Eq.trans (ite_congr rfl (fun h_3 => ?_) (fun h_3 => ?_)) q_is
        · refine (r_bipush (v := 8) rfl rfl rfl).trans ?_
          refine (r_goto rfl rfl).trans ?_
          refine (r_istore rfl rfl rfl rfl).trans ?_
          refine (r_aload_n rfl rfl rfl).trans ?_
          refine (r_iload_n rfl rfl rfl).trans ?_
          refine (r_iload rfl rfl rfl).trans ?_
          refine (r_inv (m := 157) (c := 10) rfl rfl rfl rfl rfl rfl rfl rfl).trans ?_
          refine (x_X10_its (d := d + 1) s_E (b0 h_0 h_1 h_2 h_3)).trans ?_
          show wG (d + 2) 186 (97, [.ref 101, .int x1, .int x2, .int x3, .int (f_X10_in x3.toInt64 1 30), .int 8, .retAddr 0], [.int (f_X10_its ro x1 8)], mkH E ro) Q = _
          refine (r_istore rfl rfl rfl rfl).trans ?_
          refine (r_aload_n rfl rfl rfl).trans ?_
          refine (r_iload_n rfl rfl rfl).trans ?_
          refine (r_iload rfl rfl rfl).trans ?_
          refine (r_iload_n rfl rfl rfl).trans ?_
          refine (r_inv (m := 158) (c := 10) rfl rfl rfl rfl rfl rfl rfl rfl).trans ?_
          refine (x_X10_puts (d := d + 1) s_E (b0 h_0 h_1 h_2 h_3)).trans ?_
          show wG (d + 2) 186 (107, [.ref 101, .int x1, .int x2, .int x3, .int (f_X10_in x3.toInt64 1 30), .int 8, .int (f_X10_its ro x1 8)], [], mkH E (g_X10_puts ro x1 8 x3)) Q = _
          refine (r_iload rfl rfl rfl).trans ?_
          exact r_iret rfl rfl
        · refine (r_iload_n rfl rfl rfl).trans ?_
          refine (r_istore rfl rfl rfl rfl).trans ?_
          refine (r_aload_n rfl rfl rfl).trans ?_
          refine (r_iload_n rfl rfl rfl).trans ?_
          refine (r_iload rfl rfl rfl).trans ?_
          refine (r_inv (m := 157) (c := 10) rfl rfl rfl rfl rfl rfl rfl rfl).trans ?_
          refine (x_X10_its (d := d + 1) s_E (b1 h_0 h_1 h_2 h_3)).trans ?_
          show wG (d + 2) 186 (97, [.ref 101, .int x1, .int x2, .int x3, .int (f_X10_in x3.toInt64 1 30), .int x2, .retAddr 0], [.int (f_X10_its ro x1 x2)], mkH E ro) Q = _
          refine (r_istore rfl rfl rfl rfl).trans ?_
          refine (r_aload_n rfl rfl rfl).trans ?_
          refine (r_iload_n rfl rfl rfl).trans ?_
          refine (r_iload rfl rfl rfl).trans ?_
          refine (r_iload_n rfl rfl rfl).trans ?_
          refine (r_inv (m := 158) (c := 10) rfl rfl rfl rfl rfl rfl rfl rfl).trans ?_
          refine (x_X10_puts (d := d + 1) s_E (b1 h_0 h_1 h_2 h_3)).trans ?_
          show wG (d + 2) 186 (107, [.ref 101, .int x1, .int x2, .int x3, .int (f_X10_in x3.toInt64 1 30), .int x2, .int (f_X10_its ro x1 x2)], [], mkH E (g_X10_puts ro x1 x2 x3)) Q = _
          refine (r_iload rfl rfl rfl).trans ?_
          exact r_iret rfl rfl
  · refine (r_iload_n rfl rfl rfl).trans ?_
    refine (r_iconst (v := 4) rfl rfl rfl).trans ?_
    refine (r_icmp_ne rfl rfl rfl).trans ?_
    refine Eq.trans (ite_congr rfl (fun h_1 => ?_) (fun h_1 => ?_)) q_is
    · refine (r_iload_n rfl rfl rfl).trans ?_
      refine (r_i2l rfl rfl).trans ?_
      refine (r_lconst (w := 0) rfl rfl rfl).trans ?_
      refine (r_ldc2_w (w := 63) rfl rfl rfl).trans ?_
      refine (r_ins (m := 154) rfl rfl rfl rfl rfl rfl).trans ?_
      refine (x_X10_in (d := d + 1) s_E).trans ?_
      show wG (d + 2) 186 (31, [.ref 101, .int x1, .int x2, .int x3, .retAddr 0, .retAddr 0, .retAddr 0], [.int (f_X10_in x3.toInt64 0 63)], mkH E ro) Q = _
      refine (r_goto rfl rfl).trans ?_
      refine (r_istore rfl rfl rfl rfl).trans ?_
      refine (r_aload_n rfl rfl rfl).trans ?_
      refine (r_iload_n rfl rfl rfl).trans ?_
      refine (r_inv (m := 156) (c := 10) rfl rfl rfl rfl rfl rfl rfl rfl).trans ?_
      refine (x_X10_isScene (d := d) s_E).trans ?_
      show wG (d + 2) 186 (62, [.ref 101, .int x1, .int x2, .int x3, .int (f_X10_in x3.toInt64 0 63), .retAddr 0, .retAddr 0], [.int (f_X10_isScene ro x1)], mkH E ro) Q = _
      refine (r_if_eq rfl rfl rfl).trans ?_
      refine Eq.trans (ite_congr rfl (fun h_2 => ?_) (fun h_2 => ?_)) q_is
      · refine (r_aload_n rfl rfl rfl).trans ?_
        refine (r_iconst (v := 1) rfl rfl rfl).trans ?_
        refine (r_inv (m := 153) (c := 10) rfl rfl rfl rfl rfl rfl rfl rfl).trans ?_
        refine (x_X10_finds (d := d + 1) s_E (by decide)).trans ?_
        show wG (d + 2) 186 (75, [.ref 101, .int x1, .int x2, .int x3, .int (f_X10_in x3.toInt64 0 63), .retAddr 0, .retAddr 0], [.int (f_X10_finds 1)], mkH E (g_X10_finds ro 1)) Q = _
        exact r_iret rfl rfl
      · refine (r_iload rfl rfl rfl).trans ?_
        refine (r_if_ne rfl rfl rfl).trans ?_
        refine Eq.trans (ite_congr rfl (fun h_3 => ?_) (fun h_3 => ?_)) q_is
        · refine (r_aload_n rfl rfl rfl).trans ?_
          refine (r_iconst (v := 1) rfl rfl rfl).trans ?_
          refine (r_inv (m := 153) (c := 10) rfl rfl rfl rfl rfl rfl rfl rfl).trans ?_
          refine (x_X10_finds (d := d + 1) s_E (by decide)).trans ?_
          show wG (d + 2) 186 (75, [.ref 101, .int x1, .int x2, .int x3, .int (f_X10_in x3.toInt64 0 63), .retAddr 0, .retAddr 0], [.int (f_X10_finds 1)], mkH E (g_X10_finds ro 1)) Q = _
          exact r_iret rfl rfl
        · refine (r_iload_n rfl rfl rfl).trans ?_
          refine (r_bipush (v := 6) rfl rfl rfl).trans ?_
          refine (r_icmp_ne rfl rfl rfl).trans ?_
          refine Eq.trans (ite_congr rfl (fun h_4 => ?_) (fun h_4 => ?_)) q_is
          · refine (r_bipush (v := 8) rfl rfl rfl).trans ?_
            refine (r_goto rfl rfl).trans ?_
            refine (r_istore rfl rfl rfl rfl).trans ?_
            refine (r_aload_n rfl rfl rfl).trans ?_
            refine (r_iload_n rfl rfl rfl).trans ?_
            refine (r_iload rfl rfl rfl).trans ?_
            refine (r_inv (m := 157) (c := 10) rfl rfl rfl rfl rfl rfl rfl rfl).trans ?_
            refine (x_X10_its (d := d + 1) s_E (b2 h_0 h_1 h_2 h_3 h_4)).trans ?_
            show wG (d + 2) 186 (97, [.ref 101, .int x1, .int x2, .int x3, .int (f_X10_in x3.toInt64 0 63), .int 8, .retAddr 0], [.int (f_X10_its ro x1 8)], mkH E ro) Q = _
            refine (r_istore rfl rfl rfl rfl).trans ?_
            refine (r_aload_n rfl rfl rfl).trans ?_
            refine (r_iload_n rfl rfl rfl).trans ?_
            refine (r_iload rfl rfl rfl).trans ?_
            refine (r_iload_n rfl rfl rfl).trans ?_
            refine (r_inv (m := 158) (c := 10) rfl rfl rfl rfl rfl rfl rfl rfl).trans ?_
            refine (x_X10_puts (d := d + 1) s_E (b2 h_0 h_1 h_2 h_3 h_4)).trans ?_
            show wG (d + 2) 186 (107, [.ref 101, .int x1, .int x2, .int x3, .int (f_X10_in x3.toInt64 0 63), .int 8, .int (f_X10_its ro x1 8)], [], mkH E (g_X10_puts ro x1 8 x3)) Q = _
            refine (r_iload rfl rfl rfl).trans ?_
            exact r_iret rfl rfl
          · refine (r_iload_n rfl rfl rfl).trans ?_
            refine (r_istore rfl rfl rfl rfl).trans ?_
            refine (r_aload_n rfl rfl rfl).trans ?_
            refine (r_iload_n rfl rfl rfl).trans ?_
            refine (r_iload rfl rfl rfl).trans ?_
            refine (r_inv (m := 157) (c := 10) rfl rfl rfl rfl rfl rfl rfl rfl).trans ?_
            refine (x_X10_its (d := d + 1) s_E (b3 h_0 h_1 h_2 h_3 h_4)).trans ?_
            show wG (d + 2) 186 (97, [.ref 101, .int x1, .int x2, .int x3, .int (f_X10_in x3.toInt64 0 63), .int x2, .retAddr 0], [.int (f_X10_its ro x1 x2)], mkH E ro) Q = _
            refine (r_istore rfl rfl rfl rfl).trans ?_
            refine (r_aload_n rfl rfl rfl).trans ?_
            refine (r_iload_n rfl rfl rfl).trans ?_
            refine (r_iload rfl rfl rfl).trans ?_
            refine (r_iload_n rfl rfl rfl).trans ?_
            refine (r_inv (m := 158) (c := 10) rfl rfl rfl rfl rfl rfl rfl rfl).trans ?_
            refine (x_X10_puts (d := d + 1) s_E (b3 h_0 h_1 h_2 h_3 h_4)).trans ?_
            show wG (d + 2) 186 (107, [.ref 101, .int x1, .int x2, .int x3, .int (f_X10_in x3.toInt64 0 63), .int x2, .int (f_X10_its ro x1 x2)], [], mkH E (g_X10_puts ro x1 x2 x3)) Q = _
            refine (r_iload rfl rfl rfl).trans ?_
            exact r_iret rfl rfl
    · refine (r_iload_n rfl rfl rfl).trans ?_
      refine (r_bipush (v := 6) rfl rfl rfl).trans ?_
      refine (r_icmp_ne rfl rfl rfl).trans ?_
      refine Eq.trans (ite_congr rfl (fun h_2 => ?_) (fun h_2 => ?_)) q_is
      · refine (r_iload_n rfl rfl rfl).trans ?_
        refine (r_i2l rfl rfl).trans ?_
        refine (r_lconst (w := 0) rfl rfl rfl).trans ?_
        refine (r_lconst (w := 1) rfl rfl rfl).trans ?_
        refine (r_ins (m := 154) rfl rfl rfl rfl rfl rfl).trans ?_
        refine (x_X10_in (d := d + 1) s_E).trans ?_
        show wG (d + 2) 186 (47, [.ref 101, .int x1, .int x2, .int x3, .retAddr 0, .retAddr 0, .retAddr 0], [.int (f_X10_in x3.toInt64 0 1)], mkH E ro) Q = _
        refine (r_if_eq rfl rfl rfl).trans ?_
        refine Eq.trans (ite_congr rfl (fun h_3 => ?_) (fun h_3 => ?_)) q_is
        · refine (r_iconst (v := 0) rfl rfl rfl).trans ?_
          refine (r_istore rfl rfl rfl rfl).trans ?_
          refine (r_aload_n rfl rfl rfl).trans ?_
          refine (r_iload_n rfl rfl rfl).trans ?_
          refine (r_inv (m := 156) (c := 10) rfl rfl rfl rfl rfl rfl rfl rfl).trans ?_
          refine (x_X10_isScene (d := d) s_E).trans ?_
          show wG (d + 2) 186 (62, [.ref 101, .int x1, .int x2, .int x3, .int 0, .retAddr 0, .retAddr 0], [.int (f_X10_isScene ro x1)], mkH E ro) Q = _
          refine (r_if_eq rfl rfl rfl).trans ?_
          refine Eq.trans (ite_congr rfl (fun h_4 => ?_) (fun h_4 => ?_)) q_is
          · refine (r_aload_n rfl rfl rfl).trans ?_
            refine (r_iconst (v := 1) rfl rfl rfl).trans ?_
            refine (r_inv (m := 153) (c := 10) rfl rfl rfl rfl rfl rfl rfl rfl).trans ?_
            refine (x_X10_finds (d := d + 1) s_E (by decide)).trans ?_
            show wG (d + 2) 186 (75, [.ref 101, .int x1, .int x2, .int x3, .int 0, .retAddr 0, .retAddr 0], [.int (f_X10_finds 1)], mkH E (g_X10_finds ro 1)) Q = _
            exact r_iret rfl rfl
          · refine (r_iload rfl rfl rfl).trans ?_
            refine (r_if_ne rfl rfl rfl).trans ?_
            refine (if_pos (by decide)).trans ?_
            refine (r_aload_n rfl rfl rfl).trans ?_
            refine (r_iconst (v := 1) rfl rfl rfl).trans ?_
            refine (r_inv (m := 153) (c := 10) rfl rfl rfl rfl rfl rfl rfl rfl).trans ?_
            refine (x_X10_finds (d := d + 1) s_E (by decide)).trans ?_
            show wG (d + 2) 186 (75, [.ref 101, .int x1, .int x2, .int x3, .int 0, .retAddr 0, .retAddr 0], [.int (f_X10_finds 1)], mkH E (g_X10_finds ro 1)) Q = _
            exact r_iret rfl rfl
        · refine (r_iconst (v := 1) rfl rfl rfl).trans ?_
          refine (r_goto rfl rfl).trans ?_
          refine (r_istore rfl rfl rfl rfl).trans ?_
          refine (r_aload_n rfl rfl rfl).trans ?_
          refine (r_iload_n rfl rfl rfl).trans ?_
          refine (r_inv (m := 156) (c := 10) rfl rfl rfl rfl rfl rfl rfl rfl).trans ?_
          refine (x_X10_isScene (d := d) s_E).trans ?_
          show wG (d + 2) 186 (62, [.ref 101, .int x1, .int x2, .int x3, .int 1, .retAddr 0, .retAddr 0], [.int (f_X10_isScene ro x1)], mkH E ro) Q = _
          refine (r_if_eq rfl rfl rfl).trans ?_
          refine Eq.trans (ite_congr rfl (fun h_4 => ?_) (fun h_4 => ?_)) q_is
          · refine (r_aload_n rfl rfl rfl).trans ?_
            refine (r_iconst (v := 1) rfl rfl rfl).trans ?_
            refine (r_inv (m := 153) (c := 10) rfl rfl rfl rfl rfl rfl rfl rfl).trans ?_
            refine (x_X10_finds (d := d + 1) s_E (by decide)).trans ?_
            show wG (d + 2) 186 (75, [.ref 101, .int x1, .int x2, .int x3, .int 1, .retAddr 0, .retAddr 0], [.int (f_X10_finds 1)], mkH E (g_X10_finds ro 1)) Q = _
            exact r_iret rfl rfl
          · refine (r_iload rfl rfl rfl).trans ?_
            refine (r_if_ne rfl rfl rfl).trans ?_
            refine (if_neg (by decide)).trans ?_
            refine (r_iload_n rfl rfl rfl).trans ?_
            refine (r_bipush (v := 6) rfl rfl rfl).trans ?_
            refine (r_icmp_ne rfl rfl rfl).trans ?_
            refine Eq.trans (ite_congr rfl (fun h_5 => ?_) (fun h_5 => ?_)) q_is
            · refine (r_bipush (v := 8) rfl rfl rfl).trans ?_
              refine (r_goto rfl rfl).trans ?_
              refine (r_istore rfl rfl rfl rfl).trans ?_
              refine (r_aload_n rfl rfl rfl).trans ?_
              refine (r_iload_n rfl rfl rfl).trans ?_
              refine (r_iload rfl rfl rfl).trans ?_
              refine (r_inv (m := 157) (c := 10) rfl rfl rfl rfl rfl rfl rfl rfl).trans ?_
              refine (x_X10_its (d := d + 1) s_E (b4 h_0 h_1 h_2 h_3 h_4 h_5)).trans ?_
              show wG (d + 2) 186 (97, [.ref 101, .int x1, .int x2, .int x3, .int 1, .int 8, .retAddr 0], [.int (f_X10_its ro x1 8)], mkH E ro) Q = _
              refine (r_istore rfl rfl rfl rfl).trans ?_
              refine (r_aload_n rfl rfl rfl).trans ?_
              refine (r_iload_n rfl rfl rfl).trans ?_
              refine (r_iload rfl rfl rfl).trans ?_
              refine (r_iload_n rfl rfl rfl).trans ?_
              refine (r_inv (m := 158) (c := 10) rfl rfl rfl rfl rfl rfl rfl rfl).trans ?_
              refine (x_X10_puts (d := d + 1) s_E (b4 h_0 h_1 h_2 h_3 h_4 h_5)).trans ?_
              show wG (d + 2) 186 (107, [.ref 101, .int x1, .int x2, .int x3, .int 1, .int 8, .int (f_X10_its ro x1 8)], [], mkH E (g_X10_puts ro x1 8 x3)) Q = _
              refine (r_iload rfl rfl rfl).trans ?_
              exact r_iret rfl rfl
            · refine (r_iload_n rfl rfl rfl).trans ?_
              refine (r_istore rfl rfl rfl rfl).trans ?_
              refine (r_aload_n rfl rfl rfl).trans ?_
              refine (r_iload_n rfl rfl rfl).trans ?_
              refine (r_iload rfl rfl rfl).trans ?_
              refine (r_inv (m := 157) (c := 10) rfl rfl rfl rfl rfl rfl rfl rfl).trans ?_
              refine (x_X10_its (d := d + 1) s_E (b5 h_0 h_1 h_2 h_3 h_4 h_5)).trans ?_
              show wG (d + 2) 186 (97, [.ref 101, .int x1, .int x2, .int x3, .int 1, .int x2, .retAddr 0], [.int (f_X10_its ro x1 x2)], mkH E ro) Q = _
              refine (r_istore rfl rfl rfl rfl).trans ?_
              refine (r_aload_n rfl rfl rfl).trans ?_
              refine (r_iload_n rfl rfl rfl).trans ?_
              refine (r_iload rfl rfl rfl).trans ?_
              refine (r_iload_n rfl rfl rfl).trans ?_
              refine (r_inv (m := 158) (c := 10) rfl rfl rfl rfl rfl rfl rfl rfl).trans ?_
              refine (x_X10_puts (d := d + 1) s_E (b5 h_0 h_1 h_2 h_3 h_4 h_5)).trans ?_
              show wG (d + 2) 186 (107, [.ref 101, .int x1, .int x2, .int x3, .int 1, .int x2, .int (f_X10_its ro x1 x2)], [], mkH E (g_X10_puts ro x1 x2 x3)) Q = _
              refine (r_iload rfl rfl rfl).trans ?_
              exact r_iret rfl rfl
      · refine (r_iconst (v := 0) rfl rfl rfl).trans ?_
        refine (r_istore rfl rfl rfl rfl).trans ?_
        refine (r_aload_n rfl rfl rfl).trans ?_
        refine (r_iload_n rfl rfl rfl).trans ?_
        refine (r_inv (m := 156) (c := 10) rfl rfl rfl rfl rfl rfl rfl rfl).trans ?_
        refine (x_X10_isScene (d := d) s_E).trans ?_
        show wG (d + 2) 186 (62, [.ref 101, .int x1, .int x2, .int x3, .int 0, .retAddr 0, .retAddr 0], [.int (f_X10_isScene ro x1)], mkH E ro) Q = _
        refine (r_if_eq rfl rfl rfl).trans ?_
        refine Eq.trans (ite_congr rfl (fun h_3 => ?_) (fun h_3 => ?_)) q_is
        · refine (r_aload_n rfl rfl rfl).trans ?_
          refine (r_iconst (v := 1) rfl rfl rfl).trans ?_
          refine (r_inv (m := 153) (c := 10) rfl rfl rfl rfl rfl rfl rfl rfl).trans ?_
          refine (x_X10_finds (d := d + 1) s_E (by decide)).trans ?_
          show wG (d + 2) 186 (75, [.ref 101, .int x1, .int x2, .int x3, .int 0, .retAddr 0, .retAddr 0], [.int (f_X10_finds 1)], mkH E (g_X10_finds ro 1)) Q = _
          exact r_iret rfl rfl
        · refine (r_iload rfl rfl rfl).trans ?_
          refine (r_if_ne rfl rfl rfl).trans ?_
          refine (if_pos (by decide)).trans ?_
          refine (r_aload_n rfl rfl rfl).trans ?_
          refine (r_iconst (v := 1) rfl rfl rfl).trans ?_
          refine (r_inv (m := 153) (c := 10) rfl rfl rfl rfl rfl rfl rfl rfl).trans ?_
          refine (x_X10_finds (d := d + 1) s_E (by decide)).trans ?_
          show wG (d + 2) 186 (75, [.ref 101, .int x1, .int x2, .int x3, .int 0, .retAddr 0, .retAddr 0], [.int (f_X10_finds 1)], mkH E (g_X10_finds ro 1)) Q = _
          exact r_iret rfl rfl

def f_X10_given (ro : Nat → Nat → Int32) (x1 : Int32) : Int32 := (if (f_X10_in x1.toInt64 0 (((ro 102 0) - 1).toInt64)) = 0 then f_X10_finds 1 else ro 102 (80 + x1).toNatClampNeg)
def g_X10_given (ro : Nat → Nat → Int32) (x1 : Int32) : Nat → Nat → Int32 := (if (f_X10_in x1.toInt64 0 (((ro 102 0) - 1).toInt64)) = 0 then (g_X10_finds ro 1) else ro)
theorem x_X10_given {d : Nat} {E : pEv} {ro : Nat → Nat → Int32} {Q : Option Value → pH → Prop} (s_E : oE E) {x1 : Int32} (b0 : (¬ (f_X10_in x1.toInt64 0 (((ro 102 0) - 1).toInt64)) = 0) → (¬ (80 + x1) < 0 ∧ (80 + x1).toNatClampNeg < 264)) : wX (d + 2) 196 [.ref 101, .int x1] (mkH E ro) Q = Q (some (.int (f_X10_given ro x1))) (mkH E (g_X10_given ro x1)) := by
  show _ = Q (some (.int (if (f_X10_in x1.toInt64 0 (((ro 102 0) - 1).toInt64)) = 0 then f_X10_finds 1 else ro 102 (80 + x1).toNatClampNeg))) (mkH E (if (f_X10_in x1.toInt64 0 (((ro 102 0) - 1).toInt64)) = 0 then (g_X10_finds ro 1) else ro))
  refine (wX_in rfl (by decide)).trans ?_
  show wG (d + 1) 196 (0, [.ref 101, .int x1], [], mkH E ro) Q = _
  refine (r_iload_n rfl rfl rfl).trans ?_
  refine (r_i2l rfl rfl).trans ?_
  refine (r_lconst (w := 0) rfl rfl rfl).trans ?_
  refine (r_aload_n rfl rfl rfl).trans ?_
  refine (r_getR (ci := 10) (sl := 0) s_E rfl rfl rfl rfl (by decide) rfl rfl).trans ?_
  refine (r_iconst (v := 0) rfl rfl rfl).trans ?_
  refine (r_iald rfl rfl rfl (by decide) (by decide)).trans ?_
  refine (r_iconst (v := 1) rfl rfl rfl).trans ?_
  refine (r_isub rfl rfl).trans ?_
  refine (r_i2l rfl rfl).trans ?_
  refine (r_ins (m := 154) rfl rfl rfl rfl rfl rfl).trans ?_
  refine (x_X10_in (d := d) s_E).trans ?_
  show wG (d + 1) 196 (15, [.ref 101, .int x1], [.int (f_X10_in x1.toInt64 0 (((ro 102 0) - 1).toInt64))], mkH E ro) Q = _
  refine (r_if_eq rfl rfl rfl).trans ?_
  refine Eq.trans (ite_congr rfl (fun h_0 => ?_) (fun h_0 => ?_)) q_is
  · refine (r_aload_n rfl rfl rfl).trans ?_
    refine (r_iconst (v := 1) rfl rfl rfl).trans ?_
    refine (r_inv (m := 153) (c := 10) rfl rfl rfl rfl rfl rfl rfl rfl).trans ?_
    refine (x_X10_finds (d := d) s_E (by decide)).trans ?_
    show wG (d + 1) 196 (35, [.ref 101, .int x1], [.int (f_X10_finds 1)], mkH E (g_X10_finds ro 1)) Q = _
    exact r_iret rfl rfl
  · refine (r_aload_n rfl rfl rfl).trans ?_
    refine (r_getR (ci := 10) (sl := 0) s_E rfl rfl rfl rfl (by decide) rfl rfl).trans ?_
    refine (r_bipush (v := 80) rfl rfl rfl).trans ?_
    refine (r_iload_n rfl rfl rfl).trans ?_
    refine (r_iadd rfl rfl).trans ?_
    refine (r_iald rfl rfl rfl (by decide) (b0 h_0)).trans ?_
    refine (r_goto rfl rfl).trans ?_
    exact r_iret rfl rfl

def f_X10_back (ro : Nat → Nat → Int32) (x1 : Int32) : Int32 := (if (f_X10_in x1.toInt64 0 1) = 0 then f_X10_finds 1 else ro 102 2)
def g_X10_back (ro : Nat → Nat → Int32) (x1 : Int32) : Nat → Nat → Int32 := (if (f_X10_in x1.toInt64 0 1) = 0 then (g_X10_finds ro 1) else (uI ro 102 2 x1))
theorem x_X10_back {d : Nat} {E : pEv} {ro : Nat → Nat → Int32} {Q : Option Value → pH → Prop} (s_E : oE E) {x1 : Int32} : wX (d + 2) 199 [.ref 101, .int x1] (mkH E ro) Q = Q (some (.int (f_X10_back ro x1))) (mkH E (g_X10_back ro x1)) := by
  show _ = Q (some (.int (if (f_X10_in x1.toInt64 0 1) = 0 then f_X10_finds 1 else ro 102 2))) (mkH E (if (f_X10_in x1.toInt64 0 1) = 0 then (g_X10_finds ro 1) else (uI ro 102 2 x1)))
  refine (wX_in rfl (by decide)).trans ?_
  show wG (d + 1) 199 (0, [.ref 101, .int x1, .retAddr 0], [], mkH E ro) Q = _
  refine (r_iload_n rfl rfl rfl).trans ?_
  refine (r_i2l rfl rfl).trans ?_
  refine (r_lconst (w := 0) rfl rfl rfl).trans ?_
  refine (r_lconst (w := 1) rfl rfl rfl).trans ?_
  refine (r_ins (m := 154) rfl rfl rfl rfl rfl rfl).trans ?_
  refine (x_X10_in (d := d) s_E).trans ?_
  show wG (d + 1) 199 (7, [.ref 101, .int x1, .retAddr 0], [.int (f_X10_in x1.toInt64 0 1)], mkH E ro) Q = _
  refine (r_if_ne rfl rfl rfl).trans ?_
  refine Eq.trans (ite_congr rfl (fun h_0 => ?_) (fun h_0 => ?_)) q_is
  · refine (r_aload_n rfl rfl rfl).trans ?_
    refine (r_iconst (v := 1) rfl rfl rfl).trans ?_
    refine (r_inv (m := 153) (c := 10) rfl rfl rfl rfl rfl rfl rfl rfl).trans ?_
    refine (x_X10_finds (d := d) s_E (by decide)).trans ?_
    show wG (d + 1) 199 (15, [.ref 101, .int x1, .retAddr 0], [.int (f_X10_finds 1)], mkH E (g_X10_finds ro 1)) Q = _
    exact r_iret rfl rfl
  · refine (r_aload_n rfl rfl rfl).trans ?_
    refine (r_getR (ci := 10) (sl := 0) s_E rfl rfl rfl rfl (by decide) rfl rfl).trans ?_
    refine (r_iconst (v := 2) rfl rfl rfl).trans ?_
    refine (r_iald rfl rfl rfl (by decide) (by decide)).trans ?_
    refine (r_istore_n rfl rfl rfl rfl).trans ?_
    refine (r_aload_n rfl rfl rfl).trans ?_
    refine (r_getR (ci := 10) (sl := 0) s_E rfl rfl rfl rfl (by decide) rfl rfl).trans ?_
    refine (r_iconst (v := 2) rfl rfl rfl).trans ?_
    refine (r_iload_n rfl rfl rfl).trans ?_
    refine (r_iast rfl rfl rfl (by decide) (by decide)).trans ?_
    refine (r_iload_n rfl rfl rfl).trans ?_
    exact r_iret rfl rfl

def f_X10_drawn (ro : Nat → Nat → Int32) : Int32 := (((uI ro 102 1 (((ro 102 1) * 1103515245) + 12345)) 102 1).toUInt32 >>> ((8 : Int32).toUInt32 &&& Int32.toUInt32 31)).toInt32
def g_X10_drawn (ro : Nat → Nat → Int32) : Nat → Nat → Int32 := (uI ro 102 1 (((ro 102 1) * 1103515245) + 12345))
theorem x_X10_drawn {d : Nat} {E : pEv} {ro : Nat → Nat → Int32} {Q : Option Value → pH → Prop} (s_E : oE E) : wX (d + 1) 222 [.ref 101] (mkH E ro) Q = Q (some (.int (f_X10_drawn ro))) (mkH E (g_X10_drawn ro)) := by
  show _ = Q (some (.int ((((uI ro 102 1 (((ro 102 1) * 1103515245) + 12345)) 102 1).toUInt32 >>> ((8 : Int32).toUInt32 &&& Int32.toUInt32 31)).toInt32))) (mkH E (uI ro 102 1 (((ro 102 1) * 1103515245) + 12345)))
  refine (wX_in rfl (by decide)).trans ?_
  show wG (d) 222 (0, [.ref 101], [], mkH E ro) Q = _
  refine (r_aload_n rfl rfl rfl).trans ?_
  refine (r_getR (ci := 10) (sl := 0) s_E rfl rfl rfl rfl (by decide) rfl rfl).trans ?_
  refine (r_iconst (v := 1) rfl rfl rfl).trans ?_
  refine (r_aload_n rfl rfl rfl).trans ?_
  refine (r_getR (ci := 10) (sl := 0) s_E rfl rfl rfl rfl (by decide) rfl rfl).trans ?_
  refine (r_iconst (v := 1) rfl rfl rfl).trans ?_
  refine (r_iald rfl rfl rfl (by decide) (by decide)).trans ?_
  refine (r_ldc (v := 1103515245) rfl rfl rfl).trans ?_
  refine (r_imul rfl rfl).trans ?_
  refine (r_sipush (v := 12345) rfl rfl rfl).trans ?_
  refine (r_iadd rfl rfl).trans ?_
  refine (r_iast rfl rfl rfl (by decide) (by decide)).trans ?_
  refine (r_aload_n rfl rfl rfl).trans ?_
  refine (r_getR (ci := 10) (sl := 0) s_E rfl rfl rfl rfl (by decide) rfl rfl).trans ?_
  refine (r_iconst (v := 1) rfl rfl rfl).trans ?_
  refine (r_iald rfl rfl rfl (by decide) (by decide)).trans ?_
  refine (r_bipush (v := 8) rfl rfl rfl).trans ?_
  refine (r_iushr rfl rfl).trans ?_
  exact r_iret rfl rfl

def f_X10_seed (ro : Nat → Nat → Int32) (x1 : Int32) : Int32 := ro 102 1
def g_X10_seed (ro : Nat → Nat → Int32) (x1 : Int32) : Nat → Nat → Int32 := (uI ro 102 1 x1)
theorem x_X10_seed {d : Nat} {E : pEv} {ro : Nat → Nat → Int32} {Q : Option Value → pH → Prop} (s_E : oE E) {x1 : Int32} : wX (d + 1) 224 [.ref 101, .int x1] (mkH E ro) Q = Q (some (.int (f_X10_seed ro x1))) (mkH E (g_X10_seed ro x1)) := by
  show _ = Q (some (.int (ro 102 1))) (mkH E (uI ro 102 1 x1))
  refine (wX_in rfl (by decide)).trans ?_
  show wG (d) 224 (0, [.ref 101, .int x1, .retAddr 0], [], mkH E ro) Q = _
  refine (r_aload_n rfl rfl rfl).trans ?_
  refine (r_getR (ci := 10) (sl := 0) s_E rfl rfl rfl rfl (by decide) rfl rfl).trans ?_
  refine (r_iconst (v := 1) rfl rfl rfl).trans ?_
  refine (r_iald rfl rfl rfl (by decide) (by decide)).trans ?_
  refine (r_istore_n rfl rfl rfl rfl).trans ?_
  refine (r_aload_n rfl rfl rfl).trans ?_
  refine (r_getR (ci := 10) (sl := 0) s_E rfl rfl rfl rfl (by decide) rfl rfl).trans ?_
  refine (r_iconst (v := 1) rfl rfl rfl).trans ?_
  refine (r_iload_n rfl rfl rfl).trans ?_
  refine (r_iast rfl rfl rfl (by decide) (by decide)).trans ?_
  refine (r_iload_n rfl rfl rfl).trans ?_
  exact r_iret rfl rfl

def g_X10_ran (ro : Nat → Nat → Int32) (x1 : Int32) : Nat → Nat → Int32 := (if (ro 101 19) < 40 then (uI (uI ro 111 (ro 101 19).toNatClampNeg x1) 101 19 (((uI ro 111 (ro 101 19).toNatClampNeg x1) 101 19) + 1)) else ro)
theorem x_X10_ran {d : Nat} {E : pEv} {ro : Nat → Nat → Int32} {Q : Option Value → pH → Prop} (s_E : oE E) {x1 : Int32} (b0 : ((ro 101 19) < 40) → (¬ (ro 101 19) < 0 ∧ (ro 101 19).toNatClampNeg < 40)) : wX (d + 1) 225 [.ref 101, .int x1] (mkH E ro) Q = Q none (mkH E (g_X10_ran ro x1)) := by
  show _ = Q none (mkH E (if (ro 101 19) < 40 then (uI (uI ro 111 (ro 101 19).toNatClampNeg x1) 101 19 (((uI ro 111 (ro 101 19).toNatClampNeg x1) 101 19) + 1)) else ro))
  refine (wX_in rfl (by decide)).trans ?_
  show wG (d) 225 (0, [.ref 101, .int x1], [], mkH E ro) Q = _
  refine (r_aload_n rfl rfl rfl).trans ?_
  refine (r_getI (ci := 10) (sl := 19) rfl rfl rfl rfl (by decide)).trans ?_
  refine (r_bipush (v := 40) rfl rfl rfl).trans ?_
  refine (r_icmp_ge rfl rfl rfl).trans ?_
  refine Eq.trans (ite_congr rfl (fun h_0 => ?_) (fun h_0 => ?_)) q_v
  · refine (r_aload_n rfl rfl rfl).trans ?_
    refine (r_getR (ci := 10) (sl := 18) s_E rfl rfl rfl rfl (by decide) rfl rfl).trans ?_
    refine (r_aload_n rfl rfl rfl).trans ?_
    refine (r_getI (ci := 10) (sl := 19) rfl rfl rfl rfl (by decide)).trans ?_
    refine (r_iload_n rfl rfl rfl).trans ?_
    refine (r_iast rfl rfl rfl (by decide) (b0 h_0)).trans ?_
    refine (r_aload_n rfl rfl rfl).trans ?_
    refine (r_dupR rfl rfl).trans ?_
    refine (r_getI (ci := 10) (sl := 19) rfl rfl rfl rfl (by decide)).trans ?_
    refine (r_iconst (v := 1) rfl rfl rfl).trans ?_
    refine (r_iadd rfl rfl).trans ?_
    refine (r_putI (ci := 10) (sl := 19) rfl rfl rfl rfl (by decide)).trans ?_
    exact r_vret rfl rfl
  · exact r_vret rfl rfl

def f_X10_own (ro : Nat → Nat → Int32) : Int32 := f_X10_its ro (ro 101 20) 0
theorem x_X10_own {d : Nat} {E : pEv} {ro : Nat → Nat → Int32} {Q : Option Value → pH → Prop} (s_E : oE E) (b0 : ((¬ ((10 + (10 * (ro 101 20))) + (0 : Int32)) < 0 ∧ ((10 + (10 * (ro 101 20))) + (0 : Int32)).toNatClampNeg < 264))) : wX (d + 2) 226 [.ref 101] (mkH E ro) Q = Q (some (.int (f_X10_own ro))) (mkH E ro) := by
  show _ = Q (some (.int (f_X10_its ro (ro 101 20) 0))) (mkH E ro)
  refine (wX_in rfl (by decide)).trans ?_
  show wG (d + 1) 226 (0, [.ref 101], [], mkH E ro) Q = _
  refine (r_aload_n rfl rfl rfl).trans ?_
  refine (r_aload_n rfl rfl rfl).trans ?_
  refine (r_getI (ci := 10) (sl := 20) rfl rfl rfl rfl (by decide)).trans ?_
  refine (r_iconst (v := 0) rfl rfl rfl).trans ?_
  refine (r_inv (m := 157) (c := 10) rfl rfl rfl rfl rfl rfl rfl rfl).trans ?_
  refine (x_X10_its (d := d) s_E b0).trans ?_
  show wG (d + 1) 226 (9, [.ref 101], [.int (f_X10_its ro (ro 101 20) 0)], mkH E ro) Q = _
  exact r_iret rfl rfl

def f_X10_trace (ro : Nat → Nat → Int32) (x1 : Int32) : Int32 := (if (f_X10_in x1.toInt64 0 (((ro 101 19) - 1).toInt64)) = 0 then f_X10_finds 2 else ro 111 x1.toNatClampNeg)
def g_X10_trace (ro : Nat → Nat → Int32) (x1 : Int32) : Nat → Nat → Int32 := (if (f_X10_in x1.toInt64 0 (((ro 101 19) - 1).toInt64)) = 0 then (g_X10_finds ro 2) else ro)
theorem x_X10_trace {d : Nat} {E : pEv} {ro : Nat → Nat → Int32} {Q : Option Value → pH → Prop} (s_E : oE E) {x1 : Int32} (b0 : (¬ (f_X10_in x1.toInt64 0 (((ro 101 19) - 1).toInt64)) = 0) → (¬ x1 < 0 ∧ x1.toNatClampNeg < 40)) : wX (d + 2) 232 [.ref 101, .int x1] (mkH E ro) Q = Q (some (.int (f_X10_trace ro x1))) (mkH E (g_X10_trace ro x1)) := by
  show _ = Q (some (.int (if (f_X10_in x1.toInt64 0 (((ro 101 19) - 1).toInt64)) = 0 then f_X10_finds 2 else ro 111 x1.toNatClampNeg))) (mkH E (if (f_X10_in x1.toInt64 0 (((ro 101 19) - 1).toInt64)) = 0 then (g_X10_finds ro 2) else ro))
  refine (wX_in rfl (by decide)).trans ?_
  show wG (d + 1) 232 (0, [.ref 101, .int x1], [], mkH E ro) Q = _
  refine (r_iload_n rfl rfl rfl).trans ?_
  refine (r_i2l rfl rfl).trans ?_
  refine (r_lconst (w := 0) rfl rfl rfl).trans ?_
  refine (r_aload_n rfl rfl rfl).trans ?_
  refine (r_getI (ci := 10) (sl := 19) rfl rfl rfl rfl (by decide)).trans ?_
  refine (r_iconst (v := 1) rfl rfl rfl).trans ?_
  refine (r_isub rfl rfl).trans ?_
  refine (r_i2l rfl rfl).trans ?_
  refine (r_ins (m := 154) rfl rfl rfl rfl rfl rfl).trans ?_
  refine (x_X10_in (d := d) s_E).trans ?_
  show wG (d + 1) 232 (13, [.ref 101, .int x1], [.int (f_X10_in x1.toInt64 0 (((ro 101 19) - 1).toInt64))], mkH E ro) Q = _
  refine (r_if_eq rfl rfl rfl).trans ?_
  refine Eq.trans (ite_congr rfl (fun h_0 => ?_) (fun h_0 => ?_)) q_is
  · refine (r_aload_n rfl rfl rfl).trans ?_
    refine (r_iconst (v := 2) rfl rfl rfl).trans ?_
    refine (r_inv (m := 153) (c := 10) rfl rfl rfl rfl rfl rfl rfl rfl).trans ?_
    refine (x_X10_finds (d := d) s_E (by decide)).trans ?_
    show wG (d + 1) 232 (30, [.ref 101, .int x1], [.int (f_X10_finds 2)], mkH E (g_X10_finds ro 2)) Q = _
    exact r_iret rfl rfl
  · refine (r_aload_n rfl rfl rfl).trans ?_
    refine (r_getR (ci := 10) (sl := 18) s_E rfl rfl rfl rfl (by decide) rfl rfl).trans ?_
    refine (r_iload_n rfl rfl rfl).trans ?_
    refine (r_iald rfl rfl rfl (by decide) (b0 h_0)).trans ?_
    refine (r_goto rfl rfl).trans ?_
    exact r_iret rfl rfl

def f_X10_isSheet (x0 : Int32) : Int32 := f_X10_in x0.toInt64 0 3
theorem x_X10_isSheet {d : Nat} {E : pEv} {ro : Nat → Nat → Int32} {Q : Option Value → pH → Prop} (s_E : oE E) {x0 : Int32} : wX (d + 2) 233 [.int x0] (mkH E ro) Q = Q (some (.int (f_X10_isSheet x0))) (mkH E ro) := by
  show _ = Q (some (.int (f_X10_in x0.toInt64 0 3))) (mkH E ro)
  refine (wX_in rfl (by decide)).trans ?_
  show wG (d + 1) 233 (0, [.int x0], [], mkH E ro) Q = _
  refine (r_iload_n rfl rfl rfl).trans ?_
  refine (r_i2l rfl rfl).trans ?_
  refine (r_lconst (w := 0) rfl rfl rfl).trans ?_
  refine (r_ldc2_w (w := 3) rfl rfl rfl).trans ?_
  refine (r_ins (m := 154) rfl rfl rfl rfl rfl rfl).trans ?_
  refine (x_X10_in (d := d) s_E).trans ?_
  show wG (d + 1) 233 (9, [.int x0], [.int (f_X10_in x0.toInt64 0 3)], mkH E ro) Q = _
  exact r_zret rfl rfl (z_X10_in)
theorem z_X10_isSheet {x0 : Int32} : narrow .boolean (.int (f_X10_isSheet x0)) = .int (f_X10_isSheet x0) := by
  unfold f_X10_isSheet
  (repeat' split) <;> first | rfl | exact z_X10_in

def f_X10_put (ro : Nat → Nat → Int32) (x1 : Int32) (x2 : Int32) (x3 : Int32) : Int32 := (if (f_X10_isSheet x1) = 0 then f_X10_finds 1 else (if (ro 112 x1.toNatClampNeg) = 0 then f_X10_finds 2 else (if (f_X10_in x2.toInt64 0 (((ro 113 x1.toNatClampNeg) - 1).toInt64)) = 0 then f_X10_finds 1 else (if (ro 112 x1.toNatClampNeg) = 8 then 1 else (if (ro 112 x1.toNatClampNeg) = 16 then 1 else 1)))))
def g_X10_put (ro : Nat → Nat → Int32) (x1 : Int32) (x2 : Int32) (x3 : Int32) : Nat → Nat → Int32 := (if (f_X10_isSheet x1) = 0 then (g_X10_finds ro 1) else (if (ro 112 x1.toNatClampNeg) = 0 then (g_X10_finds ro 2) else (if (f_X10_in x2.toInt64 0 (((ro 113 x1.toNatClampNeg) - 1).toInt64)) = 0 then (g_X10_finds ro 1) else (if (ro 112 x1.toNatClampNeg) = 8 then (uI ro 114 ((40 * x1) + x2).toNatClampNeg x3.toInt8.toInt32) else (if (ro 112 x1.toNatClampNeg) = 16 then (uI ro 114 ((40 * x1) + x2).toNatClampNeg x3.toInt16.toInt32) else (uI ro 114 ((40 * x1) + x2).toNatClampNeg x3))))))
theorem x_X10_put {d : Nat} {E : pEv} {ro : Nat → Nat → Int32} {Q : Option Value → pH → Prop} (s_E : oE E) {x1 : Int32} {x2 : Int32} {x3 : Int32} (b0 : (¬ (f_X10_isSheet x1) = 0) → (¬ x1 < 0 ∧ x1.toNatClampNeg < 4)) (b1 : (¬ (f_X10_isSheet x1) = 0) → (¬ (ro 112 x1.toNatClampNeg) = 0) → (¬ x1 < 0 ∧ x1.toNatClampNeg < 4)) (b2 : (¬ (f_X10_isSheet x1) = 0) → (¬ (ro 112 x1.toNatClampNeg) = 0) → (¬ (f_X10_in x2.toInt64 0 (((ro 113 x1.toNatClampNeg) - 1).toInt64)) = 0) → (¬ x1 < 0 ∧ x1.toNatClampNeg < 4)) (b3 : (¬ (f_X10_isSheet x1) = 0) → (¬ (ro 112 x1.toNatClampNeg) = 0) → (¬ (f_X10_in x2.toInt64 0 (((ro 113 x1.toNatClampNeg) - 1).toInt64)) = 0) → ((ro 112 x1.toNatClampNeg) = 8) → (¬ ((40 * x1) + x2) < 0 ∧ ((40 * x1) + x2).toNatClampNeg < 160)) (b4 : (¬ (f_X10_isSheet x1) = 0) → (¬ (ro 112 x1.toNatClampNeg) = 0) → (¬ (f_X10_in x2.toInt64 0 (((ro 113 x1.toNatClampNeg) - 1).toInt64)) = 0) → (¬ (ro 112 x1.toNatClampNeg) = 8) → (¬ x1 < 0 ∧ x1.toNatClampNeg < 4)) (b5 : (¬ (f_X10_isSheet x1) = 0) → (¬ (ro 112 x1.toNatClampNeg) = 0) → (¬ (f_X10_in x2.toInt64 0 (((ro 113 x1.toNatClampNeg) - 1).toInt64)) = 0) → (¬ (ro 112 x1.toNatClampNeg) = 8) → ((ro 112 x1.toNatClampNeg) = 16) → (¬ ((40 * x1) + x2) < 0 ∧ ((40 * x1) + x2).toNatClampNeg < 160)) (b6 : (¬ (f_X10_isSheet x1) = 0) → (¬ (ro 112 x1.toNatClampNeg) = 0) → (¬ (f_X10_in x2.toInt64 0 (((ro 113 x1.toNatClampNeg) - 1).toInt64)) = 0) → (¬ (ro 112 x1.toNatClampNeg) = 8) → (¬ (ro 112 x1.toNatClampNeg) = 16) → (¬ ((40 * x1) + x2) < 0 ∧ ((40 * x1) + x2).toNatClampNeg < 160)) : wX (d + 3) 235 [.ref 101, .int x1, .int x2, .int x3] (mkH E ro) Q = Q (some (.int (f_X10_put ro x1 x2 x3))) (mkH E (g_X10_put ro x1 x2 x3)) := by
  show _ = Q (some (.int (if (f_X10_isSheet x1) = 0 then f_X10_finds 1 else (if (ro 112 x1.toNatClampNeg) = 0 then f_X10_finds 2 else (if (f_X10_in x2.toInt64 0 (((ro 113 x1.toNatClampNeg) - 1).toInt64)) = 0 then f_X10_finds 1 else (if (ro 112 x1.toNatClampNeg) = 8 then 1 else (if (ro 112 x1.toNatClampNeg) = 16 then 1 else 1))))))) (mkH E (if (f_X10_isSheet x1) = 0 then (g_X10_finds ro 1) else (if (ro 112 x1.toNatClampNeg) = 0 then (g_X10_finds ro 2) else (if (f_X10_in x2.toInt64 0 (((ro 113 x1.toNatClampNeg) - 1).toInt64)) = 0 then (g_X10_finds ro 1) else (if (ro 112 x1.toNatClampNeg) = 8 then (uI ro 114 ((40 * x1) + x2).toNatClampNeg x3.toInt8.toInt32) else (if (ro 112 x1.toNatClampNeg) = 16 then (uI ro 114 ((40 * x1) + x2).toNatClampNeg x3.toInt16.toInt32) else (uI ro 114 ((40 * x1) + x2).toNatClampNeg x3)))))))
  refine (wX_in rfl (by decide)).trans ?_
  show wG (d + 2) 235 (0, [.ref 101, .int x1, .int x2, .int x3], [], mkH E ro) Q = _
  refine (r_iload_n rfl rfl rfl).trans ?_
  refine (r_ins (m := 233) rfl rfl rfl rfl rfl rfl).trans ?_
  refine (x_X10_isSheet (d := d) s_E).trans ?_
  show wG (d + 2) 235 (4, [.ref 101, .int x1, .int x2, .int x3], [.int (f_X10_isSheet x1)], mkH E ro) Q = _
  refine (r_if_ne rfl rfl rfl).trans ?_
  refine Eq.trans (ite_congr rfl (fun h_0 => ?_) (fun h_0 => ?_)) q_is
  · refine (r_aload_n rfl rfl rfl).trans ?_
    refine (r_iconst (v := 1) rfl rfl rfl).trans ?_
    refine (r_inv (m := 153) (c := 10) rfl rfl rfl rfl rfl rfl rfl rfl).trans ?_
    refine (x_X10_finds (d := d + 1) s_E (by decide)).trans ?_
    show wG (d + 2) 235 (12, [.ref 101, .int x1, .int x2, .int x3], [.int (f_X10_finds 1)], mkH E (g_X10_finds ro 1)) Q = _
    exact r_iret rfl rfl
  · refine (r_aload_n rfl rfl rfl).trans ?_
    refine (r_getR (ci := 10) (sl := 21) s_E rfl rfl rfl rfl (by decide) rfl rfl).trans ?_
    refine (r_iload_n rfl rfl rfl).trans ?_
    refine (r_iald rfl rfl rfl (by decide) (b0 h_0)).trans ?_
    refine (r_if_ne rfl rfl rfl).trans ?_
    refine Eq.trans (ite_congr rfl (fun h_1 => ?_) (fun h_1 => ?_)) q_is
    · refine (r_aload_n rfl rfl rfl).trans ?_
      refine (r_iconst (v := 2) rfl rfl rfl).trans ?_
      refine (r_inv (m := 153) (c := 10) rfl rfl rfl rfl rfl rfl rfl rfl).trans ?_
      refine (x_X10_finds (d := d + 1) s_E (by decide)).trans ?_
      show wG (d + 2) 235 (27, [.ref 101, .int x1, .int x2, .int x3], [.int (f_X10_finds 2)], mkH E (g_X10_finds ro 2)) Q = _
      exact r_iret rfl rfl
    · refine (r_iload_n rfl rfl rfl).trans ?_
      refine (r_i2l rfl rfl).trans ?_
      refine (r_lconst (w := 0) rfl rfl rfl).trans ?_
      refine (r_aload_n rfl rfl rfl).trans ?_
      refine (r_getR (ci := 10) (sl := 22) s_E rfl rfl rfl rfl (by decide) rfl rfl).trans ?_
      refine (r_iload_n rfl rfl rfl).trans ?_
      refine (r_iald rfl rfl rfl (by decide) (b1 h_0 h_1)).trans ?_
      refine (r_iconst (v := 1) rfl rfl rfl).trans ?_
      refine (r_isub rfl rfl).trans ?_
      refine (r_i2l rfl rfl).trans ?_
      refine (r_ins (m := 154) rfl rfl rfl rfl rfl rfl).trans ?_
      refine (x_X10_in (d := d + 1) s_E).trans ?_
      show wG (d + 2) 235 (43, [.ref 101, .int x1, .int x2, .int x3], [.int (f_X10_in x2.toInt64 0 (((ro 113 x1.toNatClampNeg) - 1).toInt64))], mkH E ro) Q = _
      refine (r_if_ne rfl rfl rfl).trans ?_
      refine Eq.trans (ite_congr rfl (fun h_2 => ?_) (fun h_2 => ?_)) q_is
      · refine (r_aload_n rfl rfl rfl).trans ?_
        refine (r_iconst (v := 1) rfl rfl rfl).trans ?_
        refine (r_inv (m := 153) (c := 10) rfl rfl rfl rfl rfl rfl rfl rfl).trans ?_
        refine (x_X10_finds (d := d + 1) s_E (by decide)).trans ?_
        show wG (d + 2) 235 (51, [.ref 101, .int x1, .int x2, .int x3], [.int (f_X10_finds 1)], mkH E (g_X10_finds ro 1)) Q = _
        exact r_iret rfl rfl
      · refine (r_aload_n rfl rfl rfl).trans ?_
        refine (r_getR (ci := 10) (sl := 23) s_E rfl rfl rfl rfl (by decide) rfl rfl).trans ?_
        refine (r_bipush (v := 40) rfl rfl rfl).trans ?_
        refine (r_iload_n rfl rfl rfl).trans ?_
        refine (r_imul rfl rfl).trans ?_
        refine (r_iload_n rfl rfl rfl).trans ?_
        refine (r_iadd rfl rfl).trans ?_
        refine (r_aload_n rfl rfl rfl).trans ?_
        refine (r_getR (ci := 10) (sl := 21) s_E rfl rfl rfl rfl (by decide) rfl rfl).trans ?_
        refine (r_iload_n rfl rfl rfl).trans ?_
        refine (r_iald rfl rfl rfl (by decide) (b2 h_0 h_1 h_2)).trans ?_
        refine (r_bipush (v := 8) rfl rfl rfl).trans ?_
        refine (r_icmp_ne rfl rfl rfl).trans ?_
        refine Eq.trans (ite_congr rfl (fun h_3 => ?_) (fun h_3 => ?_)) q_is
        · refine (r_iload_n rfl rfl rfl).trans ?_
          refine (r_i2b rfl rfl).trans ?_
          refine (r_goto rfl rfl).trans ?_
          refine (r_iast rfl rfl rfl (by decide) (b3 h_0 h_1 h_2 h_3)).trans ?_
          refine (r_iconst (v := 1) rfl rfl rfl).trans ?_
          exact r_iret rfl rfl
        · refine (r_aload_n rfl rfl rfl).trans ?_
          refine (r_getR (ci := 10) (sl := 21) s_E rfl rfl rfl rfl (by decide) rfl rfl).trans ?_
          refine (r_iload_n rfl rfl rfl).trans ?_
          refine (r_iald rfl rfl rfl (by decide) (b4 h_0 h_1 h_2 h_3)).trans ?_
          refine (r_bipush (v := 16) rfl rfl rfl).trans ?_
          refine (r_icmp_ne rfl rfl rfl).trans ?_
          refine Eq.trans (ite_congr rfl (fun h_4 => ?_) (fun h_4 => ?_)) q_is
          · refine (r_iload_n rfl rfl rfl).trans ?_
            refine (r_i2s rfl rfl).trans ?_
            refine (r_goto rfl rfl).trans ?_
            refine (r_iast rfl rfl rfl (by decide) (b5 h_0 h_1 h_2 h_3 h_4)).trans ?_
            refine (r_iconst (v := 1) rfl rfl rfl).trans ?_
            exact r_iret rfl rfl
          · refine (r_iload_n rfl rfl rfl).trans ?_
            refine (r_iast rfl rfl rfl (by decide) (b6 h_0 h_1 h_2 h_3 h_4)).trans ?_
            refine (r_iconst (v := 1) rfl rfl rfl).trans ?_
            exact r_iret rfl rfl

def f_X10_tell (ro : Nat → Nat → Int32) (x1 : Int32) : Int32 := (if (ro 102 6) = 20 then f_X10_finds 4 else (uI (uI ro 102 (92 + (ro 102 6)).toNatClampNeg x1) 102 6 (((uI ro 102 (92 + (ro 102 6)).toNatClampNeg x1) 102 6) + 1)) 102 6)
def g_X10_tell (ro : Nat → Nat → Int32) (x1 : Int32) : Nat → Nat → Int32 := (if (ro 102 6) = 20 then (g_X10_finds ro 4) else (uI (uI ro 102 (92 + (ro 102 6)).toNatClampNeg x1) 102 6 (((uI ro 102 (92 + (ro 102 6)).toNatClampNeg x1) 102 6) + 1)))
theorem x_X10_tell {d : Nat} {E : pEv} {ro : Nat → Nat → Int32} {Q : Option Value → pH → Prop} (s_E : oE E) {x1 : Int32} (b0 : (¬ (ro 102 6) = 20) → (¬ (92 + (ro 102 6)) < 0 ∧ (92 + (ro 102 6)).toNatClampNeg < 264)) : wX (d + 2) 242 [.ref 101, .int x1] (mkH E ro) Q = Q (some (.int (f_X10_tell ro x1))) (mkH E (g_X10_tell ro x1)) := by
  show _ = Q (some (.int (if (ro 102 6) = 20 then f_X10_finds 4 else (uI (uI ro 102 (92 + (ro 102 6)).toNatClampNeg x1) 102 6 (((uI ro 102 (92 + (ro 102 6)).toNatClampNeg x1) 102 6) + 1)) 102 6))) (mkH E (if (ro 102 6) = 20 then (g_X10_finds ro 4) else (uI (uI ro 102 (92 + (ro 102 6)).toNatClampNeg x1) 102 6 (((uI ro 102 (92 + (ro 102 6)).toNatClampNeg x1) 102 6) + 1))))
  refine (wX_in rfl (by decide)).trans ?_
  show wG (d + 1) 242 (0, [.ref 101, .int x1], [], mkH E ro) Q = _
  refine (r_aload_n rfl rfl rfl).trans ?_
  refine (r_getR (ci := 10) (sl := 0) s_E rfl rfl rfl rfl (by decide) rfl rfl).trans ?_
  refine (r_bipush (v := 6) rfl rfl rfl).trans ?_
  refine (r_iald rfl rfl rfl (by decide) (by decide)).trans ?_
  refine (r_bipush (v := 20) rfl rfl rfl).trans ?_
  refine (r_icmp_ne rfl rfl rfl).trans ?_
  refine Eq.trans (ite_congr rfl (fun h_0 => ?_) (fun h_0 => ?_)) q_is
  · refine (r_aload_n rfl rfl rfl).trans ?_
    refine (r_iconst (v := 4) rfl rfl rfl).trans ?_
    refine (r_inv (m := 153) (c := 10) rfl rfl rfl rfl rfl rfl rfl rfl).trans ?_
    refine (x_X10_finds (d := d) s_E (by decide)).trans ?_
    show wG (d + 1) 242 (17, [.ref 101, .int x1], [.int (f_X10_finds 4)], mkH E (g_X10_finds ro 4)) Q = _
    exact r_iret rfl rfl
  · refine (r_aload_n rfl rfl rfl).trans ?_
    refine (r_getR (ci := 10) (sl := 0) s_E rfl rfl rfl rfl (by decide) rfl rfl).trans ?_
    refine (r_bipush (v := 92) rfl rfl rfl).trans ?_
    refine (r_aload_n rfl rfl rfl).trans ?_
    refine (r_getR (ci := 10) (sl := 0) s_E rfl rfl rfl rfl (by decide) rfl rfl).trans ?_
    refine (r_bipush (v := 6) rfl rfl rfl).trans ?_
    refine (r_iald rfl rfl rfl (by decide) (by decide)).trans ?_
    refine (r_iadd rfl rfl).trans ?_
    refine (r_iload_n rfl rfl rfl).trans ?_
    refine (r_iast rfl rfl rfl (by decide) (b0 h_0)).trans ?_
    refine (r_aload_n rfl rfl rfl).trans ?_
    refine (r_getR (ci := 10) (sl := 0) s_E rfl rfl rfl rfl (by decide) rfl rfl).trans ?_
    refine (r_bipush (v := 6) rfl rfl rfl).trans ?_
    refine (r_dup2 rfl rfl).trans ?_
    refine (r_iald rfl rfl rfl (by decide) (by decide)).trans ?_
    refine (r_iconst (v := 1) rfl rfl rfl).trans ?_
    refine (r_iadd rfl rfl).trans ?_
    refine (r_iast rfl rfl rfl (by decide) (by decide)).trans ?_
    refine (r_aload_n rfl rfl rfl).trans ?_
    refine (r_getR (ci := 10) (sl := 0) s_E rfl rfl rfl rfl (by decide) rfl rfl).trans ?_
    refine (r_bipush (v := 6) rfl rfl rfl).trans ?_
    refine (r_iald rfl rfl rfl (by decide) (by decide)).trans ?_
    exact r_iret rfl rfl

def f_X10_told (ro : Nat → Nat → Int32) (x1 : Int32) : Int32 := (if (f_X10_in x1.toInt64 1 5) = 0 then f_X10_finds 1 else ro 104 x1.toNatClampNeg)
def g_X10_told (ro : Nat → Nat → Int32) (x1 : Int32) : Nat → Nat → Int32 := (if (f_X10_in x1.toInt64 1 5) = 0 then (g_X10_finds ro 1) else ro)
theorem x_X10_told {d : Nat} {E : pEv} {ro : Nat → Nat → Int32} {Q : Option Value → pH → Prop} (s_E : oE E) {x1 : Int32} (b0 : (¬ (f_X10_in x1.toInt64 1 5) = 0) → (¬ x1 < 0 ∧ x1.toNatClampNeg < 6)) : wX (d + 2) 246 [.ref 101, .int x1] (mkH E ro) Q = Q (some (.int (f_X10_told ro x1))) (mkH E (g_X10_told ro x1)) := by
  show _ = Q (some (.int (if (f_X10_in x1.toInt64 1 5) = 0 then f_X10_finds 1 else ro 104 x1.toNatClampNeg))) (mkH E (if (f_X10_in x1.toInt64 1 5) = 0 then (g_X10_finds ro 1) else ro))
  refine (wX_in rfl (by decide)).trans ?_
  show wG (d + 1) 246 (0, [.ref 101, .int x1], [], mkH E ro) Q = _
  refine (r_iload_n rfl rfl rfl).trans ?_
  refine (r_i2l rfl rfl).trans ?_
  refine (r_lconst (w := 1) rfl rfl rfl).trans ?_
  refine (r_ldc2_w (w := 5) rfl rfl rfl).trans ?_
  refine (r_ins (m := 154) rfl rfl rfl rfl rfl rfl).trans ?_
  refine (x_X10_in (d := d) s_E).trans ?_
  show wG (d + 1) 246 (9, [.ref 101, .int x1], [.int (f_X10_in x1.toInt64 1 5)], mkH E ro) Q = _
  refine (r_if_eq rfl rfl rfl).trans ?_
  refine Eq.trans (ite_congr rfl (fun h_0 => ?_) (fun h_0 => ?_)) q_is
  · refine (r_aload_n rfl rfl rfl).trans ?_
    refine (r_iconst (v := 1) rfl rfl rfl).trans ?_
    refine (r_inv (m := 153) (c := 10) rfl rfl rfl rfl rfl rfl rfl rfl).trans ?_
    refine (x_X10_finds (d := d) s_E (by decide)).trans ?_
    show wG (d + 1) 246 (26, [.ref 101, .int x1], [.int (f_X10_finds 1)], mkH E (g_X10_finds ro 1)) Q = _
    exact r_iret rfl rfl
  · refine (r_aload_n rfl rfl rfl).trans ?_
    refine (r_getR (ci := 10) (sl := 3) s_E rfl rfl rfl rfl (by decide) rfl rfl).trans ?_
    refine (r_iload_n rfl rfl rfl).trans ?_
    refine (r_iald rfl rfl rfl (by decide) (b0 h_0)).trans ?_
    refine (r_goto rfl rfl).trans ?_
    exact r_iret rfl rfl

def f_J6_bitCount_0f7a4 (x0 : Int32) : Int32 := (((((((x0 - (((x0.toUInt32 >>> ((1 : Int32).toUInt32 &&& Int32.toUInt32 31)).toInt32) &&& 1431655765)) &&& 858993459) + ((((x0 - (((x0.toUInt32 >>> ((1 : Int32).toUInt32 &&& Int32.toUInt32 31)).toInt32) &&& 1431655765)).toUInt32 >>> ((2 : Int32).toUInt32 &&& Int32.toUInt32 31)).toInt32) &&& 858993459)) + (((((x0 - (((x0.toUInt32 >>> ((1 : Int32).toUInt32 &&& Int32.toUInt32 31)).toInt32) &&& 1431655765)) &&& 858993459) + ((((x0 - (((x0.toUInt32 >>> ((1 : Int32).toUInt32 &&& Int32.toUInt32 31)).toInt32) &&& 1431655765)).toUInt32 >>> ((2 : Int32).toUInt32 &&& Int32.toUInt32 31)).toInt32) &&& 858993459)).toUInt32 >>> ((4 : Int32).toUInt32 &&& Int32.toUInt32 31)).toInt32)) &&& 252645135) + (((((((x0 - (((x0.toUInt32 >>> ((1 : Int32).toUInt32 &&& Int32.toUInt32 31)).toInt32) &&& 1431655765)) &&& 858993459) + ((((x0 - (((x0.toUInt32 >>> ((1 : Int32).toUInt32 &&& Int32.toUInt32 31)).toInt32) &&& 1431655765)).toUInt32 >>> ((2 : Int32).toUInt32 &&& Int32.toUInt32 31)).toInt32) &&& 858993459)) + (((((x0 - (((x0.toUInt32 >>> ((1 : Int32).toUInt32 &&& Int32.toUInt32 31)).toInt32) &&& 1431655765)) &&& 858993459) + ((((x0 - (((x0.toUInt32 >>> ((1 : Int32).toUInt32 &&& Int32.toUInt32 31)).toInt32) &&& 1431655765)).toUInt32 >>> ((2 : Int32).toUInt32 &&& Int32.toUInt32 31)).toInt32) &&& 858993459)).toUInt32 >>> ((4 : Int32).toUInt32 &&& Int32.toUInt32 31)).toInt32)) &&& 252645135).toUInt32 >>> ((8 : Int32).toUInt32 &&& Int32.toUInt32 31)).toInt32)) + ((((((((x0 - (((x0.toUInt32 >>> ((1 : Int32).toUInt32 &&& Int32.toUInt32 31)).toInt32) &&& 1431655765)) &&& 858993459) + ((((x0 - (((x0.toUInt32 >>> ((1 : Int32).toUInt32 &&& Int32.toUInt32 31)).toInt32) &&& 1431655765)).toUInt32 >>> ((2 : Int32).toUInt32 &&& Int32.toUInt32 31)).toInt32) &&& 858993459)) + (((((x0 - (((x0.toUInt32 >>> ((1 : Int32).toUInt32 &&& Int32.toUInt32 31)).toInt32) &&& 1431655765)) &&& 858993459) + ((((x0 - (((x0.toUInt32 >>> ((1 : Int32).toUInt32 &&& Int32.toUInt32 31)).toInt32) &&& 1431655765)).toUInt32 >>> ((2 : Int32).toUInt32 &&& Int32.toUInt32 31)).toInt32) &&& 858993459)).toUInt32 >>> ((4 : Int32).toUInt32 &&& Int32.toUInt32 31)).toInt32)) &&& 252645135) + (((((((x0 - (((x0.toUInt32 >>> ((1 : Int32).toUInt32 &&& Int32.toUInt32 31)).toInt32) &&& 1431655765)) &&& 858993459) + ((((x0 - (((x0.toUInt32 >>> ((1 : Int32).toUInt32 &&& Int32.toUInt32 31)).toInt32) &&& 1431655765)).toUInt32 >>> ((2 : Int32).toUInt32 &&& Int32.toUInt32 31)).toInt32) &&& 858993459)) + (((((x0 - (((x0.toUInt32 >>> ((1 : Int32).toUInt32 &&& Int32.toUInt32 31)).toInt32) &&& 1431655765)) &&& 858993459) + ((((x0 - (((x0.toUInt32 >>> ((1 : Int32).toUInt32 &&& Int32.toUInt32 31)).toInt32) &&& 1431655765)).toUInt32 >>> ((2 : Int32).toUInt32 &&& Int32.toUInt32 31)).toInt32) &&& 858993459)).toUInt32 >>> ((4 : Int32).toUInt32 &&& Int32.toUInt32 31)).toInt32)) &&& 252645135).toUInt32 >>> ((8 : Int32).toUInt32 &&& Int32.toUInt32 31)).toInt32)).toUInt32 >>> ((16 : Int32).toUInt32 &&& Int32.toUInt32 31)).toInt32)) &&& 63
theorem x_J6_bitCount_0f7a4 {d : Nat} {E : pEv} {ro : Nat → Nat → Int32} {Q : Option Value → pH → Prop} (s_E : oE E) {x0 : Int32} : wX (d + 1) 255 [.int x0] (mkH E ro) Q = Q (some (.int (f_J6_bitCount_0f7a4 x0))) (mkH E ro) := by
  show _ = Q (some (.int ((((((((x0 - (((x0.toUInt32 >>> ((1 : Int32).toUInt32 &&& Int32.toUInt32 31)).toInt32) &&& 1431655765)) &&& 858993459) + ((((x0 - (((x0.toUInt32 >>> ((1 : Int32).toUInt32 &&& Int32.toUInt32 31)).toInt32) &&& 1431655765)).toUInt32 >>> ((2 : Int32).toUInt32 &&& Int32.toUInt32 31)).toInt32) &&& 858993459)) + (((((x0 - (((x0.toUInt32 >>> ((1 : Int32).toUInt32 &&& Int32.toUInt32 31)).toInt32) &&& 1431655765)) &&& 858993459) + ((((x0 - (((x0.toUInt32 >>> ((1 : Int32).toUInt32 &&& Int32.toUInt32 31)).toInt32) &&& 1431655765)).toUInt32 >>> ((2 : Int32).toUInt32 &&& Int32.toUInt32 31)).toInt32) &&& 858993459)).toUInt32 >>> ((4 : Int32).toUInt32 &&& Int32.toUInt32 31)).toInt32)) &&& 252645135) + (((((((x0 - (((x0.toUInt32 >>> ((1 : Int32).toUInt32 &&& Int32.toUInt32 31)).toInt32) &&& 1431655765)) &&& 858993459) + ((((x0 - (((x0.toUInt32 >>> ((1 : Int32).toUInt32 &&& Int32.toUInt32 31)).toInt32) &&& 1431655765)).toUInt32 >>> ((2 : Int32).toUInt32 &&& Int32.toUInt32 31)).toInt32) &&& 858993459)) + (((((x0 - (((x0.toUInt32 >>> ((1 : Int32).toUInt32 &&& Int32.toUInt32 31)).toInt32) &&& 1431655765)) &&& 858993459) + ((((x0 - (((x0.toUInt32 >>> ((1 : Int32).toUInt32 &&& Int32.toUInt32 31)).toInt32) &&& 1431655765)).toUInt32 >>> ((2 : Int32).toUInt32 &&& Int32.toUInt32 31)).toInt32) &&& 858993459)).toUInt32 >>> ((4 : Int32).toUInt32 &&& Int32.toUInt32 31)).toInt32)) &&& 252645135).toUInt32 >>> ((8 : Int32).toUInt32 &&& Int32.toUInt32 31)).toInt32)) + ((((((((x0 - (((x0.toUInt32 >>> ((1 : Int32).toUInt32 &&& Int32.toUInt32 31)).toInt32) &&& 1431655765)) &&& 858993459) + ((((x0 - (((x0.toUInt32 >>> ((1 : Int32).toUInt32 &&& Int32.toUInt32 31)).toInt32) &&& 1431655765)).toUInt32 >>> ((2 : Int32).toUInt32 &&& Int32.toUInt32 31)).toInt32) &&& 858993459)) + (((((x0 - (((x0.toUInt32 >>> ((1 : Int32).toUInt32 &&& Int32.toUInt32 31)).toInt32) &&& 1431655765)) &&& 858993459) + ((((x0 - (((x0.toUInt32 >>> ((1 : Int32).toUInt32 &&& Int32.toUInt32 31)).toInt32) &&& 1431655765)).toUInt32 >>> ((2 : Int32).toUInt32 &&& Int32.toUInt32 31)).toInt32) &&& 858993459)).toUInt32 >>> ((4 : Int32).toUInt32 &&& Int32.toUInt32 31)).toInt32)) &&& 252645135) + (((((((x0 - (((x0.toUInt32 >>> ((1 : Int32).toUInt32 &&& Int32.toUInt32 31)).toInt32) &&& 1431655765)) &&& 858993459) + ((((x0 - (((x0.toUInt32 >>> ((1 : Int32).toUInt32 &&& Int32.toUInt32 31)).toInt32) &&& 1431655765)).toUInt32 >>> ((2 : Int32).toUInt32 &&& Int32.toUInt32 31)).toInt32) &&& 858993459)) + (((((x0 - (((x0.toUInt32 >>> ((1 : Int32).toUInt32 &&& Int32.toUInt32 31)).toInt32) &&& 1431655765)) &&& 858993459) + ((((x0 - (((x0.toUInt32 >>> ((1 : Int32).toUInt32 &&& Int32.toUInt32 31)).toInt32) &&& 1431655765)).toUInt32 >>> ((2 : Int32).toUInt32 &&& Int32.toUInt32 31)).toInt32) &&& 858993459)).toUInt32 >>> ((4 : Int32).toUInt32 &&& Int32.toUInt32 31)).toInt32)) &&& 252645135).toUInt32 >>> ((8 : Int32).toUInt32 &&& Int32.toUInt32 31)).toInt32)).toUInt32 >>> ((16 : Int32).toUInt32 &&& Int32.toUInt32 31)).toInt32)) &&& 63))) (mkH E ro)
  refine (wX_in rfl (by decide)).trans ?_
  show wG (d) 255 (0, [.int x0], [], mkH E ro) Q = _
  refine (r_iload_n rfl rfl rfl).trans ?_
  refine (r_iload_n rfl rfl rfl).trans ?_
  refine (r_iconst (v := 1) rfl rfl rfl).trans ?_
  refine (r_iushr rfl rfl).trans ?_
  refine (r_ldc_w (v := 1431655765) rfl rfl rfl).trans ?_
  refine (r_iand rfl rfl).trans ?_
  refine (r_isub rfl rfl).trans ?_
  refine (r_istore_n rfl rfl rfl rfl).trans ?_
  refine (r_iload_n rfl rfl rfl).trans ?_
  refine (r_ldc_w (v := 858993459) rfl rfl rfl).trans ?_
  refine (r_iand rfl rfl).trans ?_
  refine (r_iload_n rfl rfl rfl).trans ?_
  refine (r_iconst (v := 2) rfl rfl rfl).trans ?_
  refine (r_iushr rfl rfl).trans ?_
  refine (r_ldc_w (v := 858993459) rfl rfl rfl).trans ?_
  refine (r_iand rfl rfl).trans ?_
  refine (r_iadd rfl rfl).trans ?_
  refine (r_istore_n rfl rfl rfl rfl).trans ?_
  refine (r_iload_n rfl rfl rfl).trans ?_
  refine (r_iload_n rfl rfl rfl).trans ?_
  refine (r_iconst (v := 4) rfl rfl rfl).trans ?_
  refine (r_iushr rfl rfl).trans ?_
  refine (r_iadd rfl rfl).trans ?_
  refine (r_ldc_w (v := 252645135) rfl rfl rfl).trans ?_
  refine (r_iand rfl rfl).trans ?_
  refine (r_istore_n rfl rfl rfl rfl).trans ?_
  refine (r_iload_n rfl rfl rfl).trans ?_
  refine (r_iload_n rfl rfl rfl).trans ?_
  refine (r_bipush (v := 8) rfl rfl rfl).trans ?_
  refine (r_iushr rfl rfl).trans ?_
  refine (r_iadd rfl rfl).trans ?_
  refine (r_istore_n rfl rfl rfl rfl).trans ?_
  refine (r_iload_n rfl rfl rfl).trans ?_
  refine (r_iload_n rfl rfl rfl).trans ?_
  refine (r_bipush (v := 16) rfl rfl rfl).trans ?_
  refine (r_iushr rfl rfl).trans ?_
  refine (r_iadd rfl rfl).trans ?_
  refine (r_istore_n rfl rfl rfl rfl).trans ?_
  refine (r_iload_n rfl rfl rfl).trans ?_
  refine (r_bipush (v := 63) rfl rfl rfl).trans ?_
  refine (r_iand rfl rfl).trans ?_
  exact r_iret rfl rfl

def f_X4_holds (ro : Nat → Nat → Int32) (r0 : Nat) (c_h0 : Nat) (x1 : Int32) (x2 : Int32) : Int32 := (if (f_X4_spans ro r0 c_h0 x1 x2) = 0 then 0 else (if (Int32.ofNat c_h0) < (ro r0 1) then 0 else 1))
theorem x_X4_holds {d : Nat} {E : pEv} {ro : Nat → Nat → Int32} {Q : Option Value → pH → Prop} (s_E : oE E) {r0 c_h0 : Nat} (h0 : oRow r0 c_h0) {x1 : Int32} {x2 : Int32} : wX (d + 2) 257 [.ref r0, .int x1, .int x2] (mkH E ro) Q = Q (some (.int (f_X4_holds ro r0 c_h0 x1 x2))) (mkH E ro) := by
  show _ = Q (some (.int (if (f_X4_spans ro r0 c_h0 x1 x2) = 0 then 0 else (if (Int32.ofNat c_h0) < (ro r0 1) then 0 else 1)))) (mkH E ro)
  refine (wX_in rfl (by decide)).trans ?_
  show wG (d + 1) 257 (0, [.ref r0, .int x1, .int x2], [], mkH E ro) Q = _
  refine (r_aload_n rfl rfl rfl).trans ?_
  refine (r_iload_n rfl rfl rfl).trans ?_
  refine (r_iload_n rfl rfl rfl).trans ?_
  refine (r_inv (m := 70) (c := 4) rfl rfl rfl rfl rfl rfl h0.2.1 rfl).trans ?_
  refine (x_X4_spans (d := d) s_E h0).trans ?_
  show wG (d + 1) 257 (6, [.ref r0, .int x1, .int x2], [.int (f_X4_spans ro r0 c_h0 x1 x2)], mkH E ro) Q = _
  refine (r_if_eq rfl rfl rfl).trans ?_
  refine Eq.trans (ite_congr rfl (fun h_0 => ?_) (fun h_0 => ?_)) q_i
  · refine (r_iconst (v := 0) rfl rfl rfl).trans ?_
    exact r_zret rfl rfl rfl
  · refine (r_aload_n rfl rfl rfl).trans ?_
    refine (r_getI (ci := 4) (sl := 1) rfl rfl rfl h0.2.1 h0.1).trans ?_
    refine (r_aload_n rfl rfl rfl).trans ?_
    refine (r_getR (ci := 4) (sl := 0) s_E rfl rfl rfl h0.2.1 h0.1 h0.2.2.1 (n81 h0.2.1 (by decide))).trans ?_
    refine (r_alen (v := Int32.ofNat c_h0) rfl rfl h0.2.2.2 (ne9 (Nat.le_succ_of_le h0.1)) (by decide) rfl).trans ?_
    refine (r_icmp_gt rfl rfl rfl).trans ?_
    refine Eq.trans (ite_congr rfl (fun h_1 => ?_) (fun h_1 => ?_)) q_i
    · refine (r_iconst (v := 0) rfl rfl rfl).trans ?_
      exact r_zret rfl rfl rfl
    · refine (r_iconst (v := 1) rfl rfl rfl).trans ?_
      refine (r_goto rfl rfl).trans ?_
      exact r_zret rfl rfl rfl
theorem z_X4_holds {ro : Nat → Nat → Int32} {r0 : Nat} {c_h0 : Nat} {x1 : Int32} {x2 : Int32} : narrow .boolean (.int (f_X4_holds ro r0 c_h0 x1 x2)) = .int (f_X4_holds ro r0 c_h0 x1 x2) := by
  unfold f_X4_holds
  (repeat' split) <;> first | rfl

def f_X0_waysOf (E : pEv) (x0 : Int32) : Int32 := (if (f_X9_within x0 0 (8 - 1)) = 0 then 0 else exI E.2.1 7 x0.toNatClampNeg)
theorem x_X0_waysOf {d : Nat} {E : pEv} {ro : Nat → Nat → Int32} {Q : Option Value → pH → Prop} (s_E : oE E) {x0 : Int32} : wX (d + 2) 2 [.int x0] (mkH E ro) Q = Q (some (.int (f_X0_waysOf E x0))) (mkH E ro) := by
  show _ = Q (some (.int (if (f_X9_within x0 0 (8 - 1)) = 0 then 0 else exI E.2.1 7 x0.toNatClampNeg))) (mkH E ro)
  refine (wX_in rfl (by decide)).trans ?_
  show wG (d + 1) 2 (0, [.int x0], [], mkH E ro) Q = _
  refine (r_iload_n rfl rfl rfl).trans ?_
  refine (r_iconst (v := 0) rfl rfl rfl).trans ?_
  refine (r_gets (q := 7) rfl rfl rfl).trans ?_
  refine (r_alen (v := 8) rfl rfl rfl (by decide) (by decide) rfl).trans ?_
  refine (r_iconst (v := 1) rfl rfl rfl).trans ?_
  refine (r_isub rfl rfl).trans ?_
  refine (r_ins (m := 146) rfl rfl rfl rfl rfl rfl).trans ?_
  refine (x_X9_within (d := d) s_E).trans ?_
  show wG (d + 1) 2 (11, [.int x0], [.int (f_X9_within x0 0 (8 - 1))], mkH E ro) Q = _
  refine (r_if_eq rfl rfl rfl).trans ?_
  refine Eq.trans (ite_congr rfl (fun h_0 => ?_) (fun h_0 => ?_)) q_i
  · refine (r_iconst (v := 0) rfl rfl rfl).trans ?_
    exact r_iret rfl rfl
  · refine (r_gets (q := 7) rfl rfl rfl).trans ?_
    refine (r_iload_n rfl rfl rfl).trans ?_
    refine (r_ialdT rfl rfl rfl (by decide) (ixW (n := 8) (by decide) h_0)).trans ?_
    refine (r_goto rfl rfl).trans ?_
    exact r_iret rfl rfl

def f_X0_guessAfter (ro : Nat → Nat → Int32) (x1 : Int32) (x2 : Int32) : Int32 := f_X4_at ro 66 49 ((x2 * 7) + (f_J6_bitCount_0f7a4 ((ro (f_X2_at 11 x2) 3) &&& (x1 ^^^ (-1)))))
theorem x_X0_guessAfter {d : Nat} {E : pEv} {ro : Nat → Nat → Int32} {Q : Option Value → pH → Prop} (s_E : oE E) {x1 : Int32} {x2 : Int32} : wX (d + 2) 4 [.ref 65, .int x1, .int x2] (mkH E ro) Q = Q (some (.int (f_X0_guessAfter ro x1 x2))) (mkH E ro) := by
  show _ = Q (some (.int (f_X4_at ro 66 49 ((x2 * 7) + (f_J6_bitCount_0f7a4 ((ro (f_X2_at 11 x2) 3) &&& (x1 ^^^ (-1)))))))) (mkH E ro)
  refine (wX_in rfl (by decide)).trans ?_
  show wG (d + 1) 4 (0, [.ref 65, .int x1, .int x2], [], mkH E ro) Q = _
  refine (r_aload_n rfl rfl rfl).trans ?_
  refine (r_getR (ci := 0) (sl := 1) s_E rfl rfl rfl rfl (by decide) rfl rfl).trans ?_
  refine (r_iload_n rfl rfl rfl).trans ?_
  refine (r_bipush (v := 7) rfl rfl rfl).trans ?_
  refine (r_imul rfl rfl).trans ?_
  refine (r_aload_n rfl rfl rfl).trans ?_
  refine (r_getR (ci := 0) (sl := 0) s_E rfl rfl rfl rfl (by decide) rfl rfl).trans ?_
  refine (r_iload_n rfl rfl rfl).trans ?_
  refine (r_inv (m := 20) (c := 2) rfl rfl rfl rfl rfl rfl rfl rfl).trans ?_
  refine (x_X2_at (d := d) s_E oP11).trans ?_
  show wG (d + 1) 4 (16, [.ref 65, .int x1, .int x2], [.ref (f_X2_at 11 x2), .int (x2 * 7), .ref 66], mkH E ro) Q = _
  refine (r_getI (ci := 5) (sl := 3) rfl rfl rfl (oSc_at oP11).2.1 (oSc_at oP11).1).trans ?_
  refine (r_iload_n rfl rfl rfl).trans ?_
  refine (r_iconst (v := (-1)) rfl rfl rfl).trans ?_
  refine (r_ixor rfl rfl).trans ?_
  refine (r_iand rfl rfl).trans ?_
  refine (r_ins (m := 255) rfl rfl rfl rfl rfl rfl).trans ?_
  refine (x_J6_bitCount_0f7a4 (d := d) s_E).trans ?_
  show wG (d + 1) 4 (26, [.ref 65, .int x1, .int x2], [.int (f_J6_bitCount_0f7a4 ((ro (f_X2_at 11 x2) 3) &&& (x1 ^^^ (-1)))), .int (x2 * 7), .ref 66], mkH E ro) Q = _
  refine (r_iadd rfl rfl).trans ?_
  refine (r_inv (m := 57) (c := 4) rfl rfl rfl rfl rfl rfl rfl rfl).trans ?_
  refine (x_X4_at (d := d) s_E (oR (c := 49) rfl)).trans ?_
  show wG (d + 1) 4 (30, [.ref 65, .int x1, .int x2], [.int (f_X4_at ro 66 49 ((x2 * 7) + (f_J6_bitCount_0f7a4 ((ro (f_X2_at 11 x2) 3) &&& (x1 ^^^ (-1))))))], mkH E ro) Q = _
  exact r_iret rfl rfl

def f_X0_handsBy (ro : Nat → Nat → Int32) (x1 : Int32) (x2 : Int32) (x3 : Int32) : Int32 := (if x2 < 0 then 0 + (f_X4_at ro 72 896 (((x1 ||| ((1 : Int32) <<< (x3 &&& 31))) * 7) + x3)) else (if (f_X5_endsAt ro (f_X2_at 11 x2) (ro 11 8)) = (f_X5_beginsAt ro (f_X2_at 11 x3) (ro 11 8)) then (f_X9_truth 0) + (f_X4_at ro 72 896 (((x1 ||| ((1 : Int32) <<< (x3 &&& 31))) * 7) + x3)) else (f_X9_truth 1) + (f_X4_at ro 72 896 (((x1 ||| ((1 : Int32) <<< (x3 &&& 31))) * 7) + x3))))
theorem x_X0_handsBy {d : Nat} {E : pEv} {ro : Nat → Nat → Int32} {Q : Option Value → pH → Prop} (s_E : oE E) {x1 : Int32} {x2 : Int32} {x3 : Int32} : wX (d + 2) 13 [.ref 65, .int x1, .int x2, .int x3] (mkH E ro) Q = Q (some (.int (f_X0_handsBy ro x1 x2 x3))) (mkH E ro) := by
  show _ = Q (some (.int (if x2 < 0 then 0 + (f_X4_at ro 72 896 (((x1 ||| ((1 : Int32) <<< (x3 &&& 31))) * 7) + x3)) else (if (f_X5_endsAt ro (f_X2_at 11 x2) (ro 11 8)) = (f_X5_beginsAt ro (f_X2_at 11 x3) (ro 11 8)) then (f_X9_truth 0) + (f_X4_at ro 72 896 (((x1 ||| ((1 : Int32) <<< (x3 &&& 31))) * 7) + x3)) else (f_X9_truth 1) + (f_X4_at ro 72 896 (((x1 ||| ((1 : Int32) <<< (x3 &&& 31))) * 7) + x3)))))) (mkH E ro)
  refine (wX_in rfl (by decide)).trans ?_
  show wG (d + 1) 13 (0, [.ref 65, .int x1, .int x2, .int x3, .retAddr 0], [], mkH E ro) Q = _
  refine (r_iconst (v := 0) rfl rfl rfl).trans ?_
  refine (r_istore rfl rfl rfl rfl).trans ?_
  refine (r_iload_n rfl rfl rfl).trans ?_
  refine (r_if_lt rfl rfl rfl).trans ?_
  refine Eq.trans (ite_congr rfl (fun h_0 => ?_) (fun h_0 => ?_)) q_i
  · refine (r_iload rfl rfl rfl).trans ?_
    refine (r_aload_n rfl rfl rfl).trans ?_
    refine (r_getR (ci := 0) (sl := 4) s_E rfl rfl rfl rfl (by decide) rfl rfl).trans ?_
    refine (r_iload_n rfl rfl rfl).trans ?_
    refine (r_iconst (v := 1) rfl rfl rfl).trans ?_
    refine (r_iload_n rfl rfl rfl).trans ?_
    refine (r_ishl rfl rfl).trans ?_
    refine (r_ior rfl rfl).trans ?_
    refine (r_bipush (v := 7) rfl rfl rfl).trans ?_
    refine (r_imul rfl rfl).trans ?_
    refine (r_iload_n rfl rfl rfl).trans ?_
    refine (r_iadd rfl rfl).trans ?_
    refine (r_inv (m := 57) (c := 4) rfl rfl rfl rfl rfl rfl rfl rfl).trans ?_
    refine (x_X4_at (d := d) s_E (oR (c := 896) rfl)).trans ?_
    show wG (d + 1) 13 (75, [.ref 65, .int x1, .int x2, .int x3, .int 0], [.int (f_X4_at ro 72 896 (((x1 ||| ((1 : Int32) <<< (x3 &&& 31))) * 7) + x3)), .int 0], mkH E ro) Q = _
    refine (r_iadd rfl rfl).trans ?_
    exact r_iret rfl rfl
  · refine (r_aload_n rfl rfl rfl).trans ?_
    refine (r_getR (ci := 0) (sl := 0) s_E rfl rfl rfl rfl (by decide) rfl rfl).trans ?_
    refine (r_iload_n rfl rfl rfl).trans ?_
    refine (r_inv (m := 20) (c := 2) rfl rfl rfl rfl rfl rfl rfl rfl).trans ?_
    refine (x_X2_at (d := d) s_E oP11).trans ?_
    show wG (d + 1) 13 (15, [.ref 65, .int x1, .int x2, .int x3, .int 0], [.ref (f_X2_at 11 x2)], mkH E ro) Q = _
    refine (r_aload_n rfl rfl rfl).trans ?_
    refine (r_getR (ci := 0) (sl := 0) s_E rfl rfl rfl rfl (by decide) rfl rfl).trans ?_
    refine (r_getI (ci := 2) (sl := 8) rfl rfl rfl rfl (by decide)).trans ?_
    refine (r_inv (m := 81) (c := 5) rfl rfl rfl rfl rfl rfl (oSc_at oP11).2.1 rfl).trans ?_
    refine (x_X5_endsAt (d := d) s_E (oSc_at oP11)).trans ?_
    show wG (d + 1) 13 (25, [.ref 65, .int x1, .int x2, .int x3, .int 0], [.int (f_X5_endsAt ro (f_X2_at 11 x2) (ro 11 8))], mkH E ro) Q = _
    refine (r_aload_n rfl rfl rfl).trans ?_
    refine (r_getR (ci := 0) (sl := 0) s_E rfl rfl rfl rfl (by decide) rfl rfl).trans ?_
    refine (r_iload_n rfl rfl rfl).trans ?_
    refine (r_inv (m := 20) (c := 2) rfl rfl rfl rfl rfl rfl rfl rfl).trans ?_
    refine (x_X2_at (d := d) s_E oP11).trans ?_
    show wG (d + 1) 13 (33, [.ref 65, .int x1, .int x2, .int x3, .int 0], [.ref (f_X2_at 11 x3), .int (f_X5_endsAt ro (f_X2_at 11 x2) (ro 11 8))], mkH E ro) Q = _
    refine (r_aload_n rfl rfl rfl).trans ?_
    refine (r_getR (ci := 0) (sl := 0) s_E rfl rfl rfl rfl (by decide) rfl rfl).trans ?_
    refine (r_getI (ci := 2) (sl := 8) rfl rfl rfl rfl (by decide)).trans ?_
    refine (r_inv (m := 80) (c := 5) rfl rfl rfl rfl rfl rfl (oSc_at oP11).2.1 rfl).trans ?_
    refine (x_X5_beginsAt (d := d) s_E (oSc_at oP11)).trans ?_
    show wG (d + 1) 13 (43, [.ref 65, .int x1, .int x2, .int x3, .int 0], [.int (f_X5_beginsAt ro (f_X2_at 11 x3) (ro 11 8)), .int (f_X5_endsAt ro (f_X2_at 11 x2) (ro 11 8))], mkH E ro) Q = _
    refine (r_icmp_eq rfl rfl rfl).trans ?_
    refine Eq.trans (ite_congr rfl (fun h_1 => ?_) (fun h_1 => ?_)) q_i
    · refine (r_iconst (v := 0) rfl rfl rfl).trans ?_
      refine (r_ins (m := 148) rfl rfl rfl rfl rfl rfl).trans ?_
      refine (x_X9_truth (d := d) s_E).trans ?_
      show wG (d + 1) 13 (54, [.ref 65, .int x1, .int x2, .int x3, .int 0], [.int (f_X9_truth 0)], mkH E ro) Q = _
      refine (r_istore rfl rfl rfl rfl).trans ?_
      refine (r_iload rfl rfl rfl).trans ?_
      refine (r_aload_n rfl rfl rfl).trans ?_
      refine (r_getR (ci := 0) (sl := 4) s_E rfl rfl rfl rfl (by decide) rfl rfl).trans ?_
      refine (r_iload_n rfl rfl rfl).trans ?_
      refine (r_iconst (v := 1) rfl rfl rfl).trans ?_
      refine (r_iload_n rfl rfl rfl).trans ?_
      refine (r_ishl rfl rfl).trans ?_
      refine (r_ior rfl rfl).trans ?_
      refine (r_bipush (v := 7) rfl rfl rfl).trans ?_
      refine (r_imul rfl rfl).trans ?_
      refine (r_iload_n rfl rfl rfl).trans ?_
      refine (r_iadd rfl rfl).trans ?_
      refine (r_inv (m := 57) (c := 4) rfl rfl rfl rfl rfl rfl rfl rfl).trans ?_
      refine (x_X4_at (d := d) s_E (oR (c := 896) rfl)).trans ?_
      show wG (d + 1) 13 (75, [.ref 65, .int x1, .int x2, .int x3, .int (f_X9_truth 0)], [.int (f_X4_at ro 72 896 (((x1 ||| ((1 : Int32) <<< (x3 &&& 31))) * 7) + x3)), .int (f_X9_truth 0)], mkH E ro) Q = _
      refine (r_iadd rfl rfl).trans ?_
      exact r_iret rfl rfl
    · refine (r_iconst (v := 1) rfl rfl rfl).trans ?_
      refine (r_goto rfl rfl).trans ?_
      refine (r_ins (m := 148) rfl rfl rfl rfl rfl rfl).trans ?_
      refine (x_X9_truth (d := d) s_E).trans ?_
      show wG (d + 1) 13 (54, [.ref 65, .int x1, .int x2, .int x3, .int 0], [.int (f_X9_truth 1)], mkH E ro) Q = _
      refine (r_istore rfl rfl rfl rfl).trans ?_
      refine (r_iload rfl rfl rfl).trans ?_
      refine (r_aload_n rfl rfl rfl).trans ?_
      refine (r_getR (ci := 0) (sl := 4) s_E rfl rfl rfl rfl (by decide) rfl rfl).trans ?_
      refine (r_iload_n rfl rfl rfl).trans ?_
      refine (r_iconst (v := 1) rfl rfl rfl).trans ?_
      refine (r_iload_n rfl rfl rfl).trans ?_
      refine (r_ishl rfl rfl).trans ?_
      refine (r_ior rfl rfl).trans ?_
      refine (r_bipush (v := 7) rfl rfl rfl).trans ?_
      refine (r_imul rfl rfl).trans ?_
      refine (r_iload_n rfl rfl rfl).trans ?_
      refine (r_iadd rfl rfl).trans ?_
      refine (r_inv (m := 57) (c := 4) rfl rfl rfl rfl rfl rfl rfl rfl).trans ?_
      refine (x_X4_at (d := d) s_E (oR (c := 896) rfl)).trans ?_
      show wG (d + 1) 13 (75, [.ref 65, .int x1, .int x2, .int x3, .int (f_X9_truth 1)], [.int (f_X4_at ro 72 896 (((x1 ||| ((1 : Int32) <<< (x3 &&& 31))) * 7) + x3)), .int (f_X9_truth 1)], mkH E ro) Q = _
      refine (r_iadd rfl rfl).trans ?_
      exact r_iret rfl rfl

def g_X2_giveEvening (ro : Nat → Nat → Int32) (x1 : Int32) : Nat → Nat → Int32 := (uI (uI ro 11 9 (f_X9_held ((ro 11 9) + x1) (-99999) 99999)) 11 10 (((uI ro 11 9 (f_X9_held ((ro 11 9) + x1) (-99999) 99999)) 11 10) + 1))
theorem x_X2_giveEvening {d : Nat} {E : pEv} {ro : Nat → Nat → Int32} {Q : Option Value → pH → Prop} (s_E : oE E) {x1 : Int32} : wX (d + 2) 42 [.ref 11, .int x1] (mkH E ro) Q = Q none (mkH E (g_X2_giveEvening ro x1)) := by
  show _ = Q none (mkH E (uI (uI ro 11 9 (f_X9_held ((ro 11 9) + x1) (-99999) 99999)) 11 10 (((uI ro 11 9 (f_X9_held ((ro 11 9) + x1) (-99999) 99999)) 11 10) + 1)))
  refine (wX_in rfl (by decide)).trans ?_
  show wG (d + 1) 42 (0, [.ref 11, .int x1], [], mkH E ro) Q = _
  refine (r_aload_n rfl rfl rfl).trans ?_
  refine (r_aload_n rfl rfl rfl).trans ?_
  refine (r_getI (ci := 2) (sl := 9) rfl rfl rfl rfl (by decide)).trans ?_
  refine (r_iload_n rfl rfl rfl).trans ?_
  refine (r_iadd rfl rfl).trans ?_
  refine (r_ldc (v := (-99999)) rfl rfl rfl).trans ?_
  refine (r_ldc (v := 99999) rfl rfl rfl).trans ?_
  refine (r_ins (m := 147) rfl rfl rfl rfl rfl rfl).trans ?_
  refine (x_X9_held (d := d) s_E).trans ?_
  show wG (d + 1) 42 (14, [.ref 11, .int x1], [.int (f_X9_held ((ro 11 9) + x1) (-99999) 99999), .ref 11], mkH E ro) Q = _
  refine (r_putI (ci := 2) (sl := 9) rfl rfl rfl rfl (by decide)).trans ?_
  refine (r_aload_n rfl rfl rfl).trans ?_
  refine (r_dupR rfl rfl).trans ?_
  refine (r_getI (ci := 2) (sl := 10) rfl rfl rfl rfl (by decide)).trans ?_
  refine (r_iconst (v := 1) rfl rfl rfl).trans ?_
  refine (r_iadd rfl rfl).trans ?_
  refine (r_putI (ci := 2) (sl := 10) rfl rfl rfl rfl (by decide)).trans ?_
  exact r_vret rfl rfl

def g_X2_loosen (ro : Nat → Nat → Int32) : Nat → Nat → Int32 := (if ((ro 11 7) - 1) < 1 then ro else (g_X4_swap (uI ro 11 11 (((ro 11 11) * 1103515245) + 12345)) 32 7 (((((uI ro 11 11 (((ro 11 11) * 1103515245) + 12345)) 11 11).toUInt32 >>> ((8 : Int32).toUInt32 &&& Int32.toUInt32 31)).toInt32) - ((((uI ro 11 11 (((ro 11 11) * 1103515245) + 12345)) 11 11).toUInt32 >>> ((8 : Int32).toUInt32 &&& Int32.toUInt32 31)).toInt32) / ((ro 11 7) - 1) * ((ro 11 7) - 1)) ((((((uI ro 11 11 (((ro 11 11) * 1103515245) + 12345)) 11 11).toUInt32 >>> ((8 : Int32).toUInt32 &&& Int32.toUInt32 31)).toInt32) - ((((uI ro 11 11 (((ro 11 11) * 1103515245) + 12345)) 11 11).toUInt32 >>> ((8 : Int32).toUInt32 &&& Int32.toUInt32 31)).toInt32) / ((ro 11 7) - 1) * ((ro 11 7) - 1)) + 1)))
theorem x_X2_loosen {d : Nat} {E : pEv} {ro : Nat → Nat → Int32} {Q : Option Value → pH → Prop} (s_E : oE E) (b0 : (¬ ((ro 11 7) - 1) < 1) → (¬ ((ro 11 7) - 1) = 0)) : wX (d + 3) 43 [.ref 11] (mkH E ro) Q = Q none (mkH E (g_X2_loosen ro)) := by
  show _ = Q none (mkH E (if ((ro 11 7) - 1) < 1 then ro else (g_X4_swap (uI ro 11 11 (((ro 11 11) * 1103515245) + 12345)) 32 7 (((((uI ro 11 11 (((ro 11 11) * 1103515245) + 12345)) 11 11).toUInt32 >>> ((8 : Int32).toUInt32 &&& Int32.toUInt32 31)).toInt32) - ((((uI ro 11 11 (((ro 11 11) * 1103515245) + 12345)) 11 11).toUInt32 >>> ((8 : Int32).toUInt32 &&& Int32.toUInt32 31)).toInt32) / ((ro 11 7) - 1) * ((ro 11 7) - 1)) ((((((uI ro 11 11 (((ro 11 11) * 1103515245) + 12345)) 11 11).toUInt32 >>> ((8 : Int32).toUInt32 &&& Int32.toUInt32 31)).toInt32) - ((((uI ro 11 11 (((ro 11 11) * 1103515245) + 12345)) 11 11).toUInt32 >>> ((8 : Int32).toUInt32 &&& Int32.toUInt32 31)).toInt32) / ((ro 11 7) - 1) * ((ro 11 7) - 1)) + 1))))
  refine (wX_in rfl (by decide)).trans ?_
  show wG (d + 2) 43 (0, [.ref 11, .retAddr 0, .retAddr 0], [], mkH E ro) Q = _
  refine (r_aload_n rfl rfl rfl).trans ?_
  refine (r_getI (ci := 2) (sl := 7) rfl rfl rfl rfl (by decide)).trans ?_
  refine (r_iconst (v := 1) rfl rfl rfl).trans ?_
  refine (r_isub rfl rfl).trans ?_
  refine (r_istore_n rfl rfl rfl rfl).trans ?_
  refine (r_iload_n rfl rfl rfl).trans ?_
  refine (r_iconst (v := 1) rfl rfl rfl).trans ?_
  refine (r_icmp_ge rfl rfl rfl).trans ?_
  refine Eq.trans (ite_congr rfl (fun h_0 => ?_) (fun h_0 => ?_)) q_v
  · exact r_vret rfl rfl
  · refine (r_aload_n rfl rfl rfl).trans ?_
    refine (r_aload_n rfl rfl rfl).trans ?_
    refine (r_getI (ci := 2) (sl := 11) rfl rfl rfl rfl (by decide)).trans ?_
    refine (r_ldc (v := 1103515245) rfl rfl rfl).trans ?_
    refine (r_imul rfl rfl).trans ?_
    refine (r_sipush (v := 12345) rfl rfl rfl).trans ?_
    refine (r_iadd rfl rfl).trans ?_
    refine (r_putI (ci := 2) (sl := 11) rfl rfl rfl rfl (by decide)).trans ?_
    refine (r_aload_n rfl rfl rfl).trans ?_
    refine (r_getI (ci := 2) (sl := 11) rfl rfl rfl rfl (by decide)).trans ?_
    refine (r_bipush (v := 8) rfl rfl rfl).trans ?_
    refine (r_iushr rfl rfl).trans ?_
    refine (r_iload_n rfl rfl rfl).trans ?_
    refine (r_irem rfl rfl (b0 h_0)).trans ?_
    refine (r_istore_n rfl rfl rfl rfl).trans ?_
    refine (r_aload_n rfl rfl rfl).trans ?_
    refine (r_getR (ci := 2) (sl := 4) s_E rfl rfl rfl rfl (by decide) rfl rfl).trans ?_
    refine (r_iload_n rfl rfl rfl).trans ?_
    refine (r_iload_n rfl rfl rfl).trans ?_
    refine (r_iconst (v := 1) rfl rfl rfl).trans ?_
    refine (r_iadd rfl rfl).trans ?_
    refine (r_inv (m := 64) (c := 4) rfl rfl rfl rfl rfl rfl rfl rfl).trans ?_
    refine (x_X4_swap (d := d) s_E (oR (c := 7) rfl)).trans ?_
    show wG (d + 2) 43 (49, [.ref 11, .int ((ro 11 7) - 1), .int (((((uI ro 11 11 (((ro 11 11) * 1103515245) + 12345)) 11 11).toUInt32 >>> ((8 : Int32).toUInt32 &&& Int32.toUInt32 31)).toInt32) - ((((uI ro 11 11 (((ro 11 11) * 1103515245) + 12345)) 11 11).toUInt32 >>> ((8 : Int32).toUInt32 &&& Int32.toUInt32 31)).toInt32) / ((ro 11 7) - 1) * ((ro 11 7) - 1))], [], mkH E (g_X4_swap (uI ro 11 11 (((ro 11 11) * 1103515245) + 12345)) 32 7 (((((uI ro 11 11 (((ro 11 11) * 1103515245) + 12345)) 11 11).toUInt32 >>> ((8 : Int32).toUInt32 &&& Int32.toUInt32 31)).toInt32) - ((((uI ro 11 11 (((ro 11 11) * 1103515245) + 12345)) 11 11).toUInt32 >>> ((8 : Int32).toUInt32 &&& Int32.toUInt32 31)).toInt32) / ((ro 11 7) - 1) * ((ro 11 7) - 1)) ((((((uI ro 11 11 (((ro 11 11) * 1103515245) + 12345)) 11 11).toUInt32 >>> ((8 : Int32).toUInt32 &&& Int32.toUInt32 31)).toInt32) - ((((uI ro 11 11 (((ro 11 11) * 1103515245) + 12345)) 11 11).toUInt32 >>> ((8 : Int32).toUInt32 &&& Int32.toUInt32 31)).toInt32) / ((ro 11 7) - 1) * ((ro 11 7) - 1)) + 1))) Q = _
    exact r_vret rfl rfl

def f_X3_here (ro : Nat → Nat → Int32) : Int32 := (if (ro 81 2) < (ro 34 1) then f_X4_at ro 34 50 (ro 81 2) else (-1))
theorem x_X3_here {d : Nat} {E : pEv} {ro : Nat → Nat → Int32} {Q : Option Value → pH → Prop} (s_E : oE E) : wX (d + 2) 47 [.ref 81] (mkH E ro) Q = Q (some (.int (f_X3_here ro))) (mkH E ro) := by
  show _ = Q (some (.int (if (ro 81 2) < (ro 34 1) then f_X4_at ro 34 50 (ro 81 2) else (-1)))) (mkH E ro)
  refine (wX_in rfl (by decide)).trans ?_
  show wG (d + 1) 47 (0, [.ref 81], [], mkH E ro) Q = _
  refine (r_aload_n rfl rfl rfl).trans ?_
  refine (r_getI (ci := 3) (sl := 2) rfl rfl rfl rfl (by decide)).trans ?_
  refine (r_aload_n rfl rfl rfl).trans ?_
  refine (r_getR (ci := 3) (sl := 0) s_E rfl rfl rfl rfl (by decide) rfl rfl).trans ?_
  refine (r_getI (ci := 4) (sl := 1) rfl rfl rfl rfl (by decide)).trans ?_
  refine (r_icmp_ge rfl rfl rfl).trans ?_
  refine Eq.trans (ite_congr rfl (fun h_0 => ?_) (fun h_0 => ?_)) q_i
  · refine (r_aload_n rfl rfl rfl).trans ?_
    refine (r_getR (ci := 3) (sl := 0) s_E rfl rfl rfl rfl (by decide) rfl rfl).trans ?_
    refine (r_aload_n rfl rfl rfl).trans ?_
    refine (r_getI (ci := 3) (sl := 2) rfl rfl rfl rfl (by decide)).trans ?_
    refine (r_inv (m := 57) (c := 4) rfl rfl rfl rfl rfl rfl rfl rfl).trans ?_
    refine (x_X4_at (d := d) s_E (oR (c := 50) rfl)).trans ?_
    show wG (d + 1) 47 (25, [.ref 81], [.int (f_X4_at ro 34 50 (ro 81 2))], mkH E ro) Q = _
    refine (r_goto rfl rfl).trans ?_
    exact r_iret rfl rfl
  · refine (r_iconst (v := (-1)) rfl rfl rfl).trans ?_
    exact r_iret rfl rfl

def f_X3_readsClosing (ro : Nat → Nat → Int32) : Int32 := (if (f_X3_here ro) = 41 then 1 else 0)
def g_X3_readsClosing (ro : Nat → Nat → Int32) : Nat → Nat → Int32 := (if (f_X3_here ro) = 41 then (uI ro 81 2 ((ro 81 2) + 1)) else ro)
theorem x_X3_readsClosing {d : Nat} {E : pEv} {ro : Nat → Nat → Int32} {Q : Option Value → pH → Prop} (s_E : oE E) : wX (d + 3) 52 [.ref 81] (mkH E ro) Q = Q (some (.int (f_X3_readsClosing ro))) (mkH E (g_X3_readsClosing ro)) := by
  show _ = Q (some (.int (if (f_X3_here ro) = 41 then 1 else 0))) (mkH E (if (f_X3_here ro) = 41 then (uI ro 81 2 ((ro 81 2) + 1)) else ro))
  refine (wX_in rfl (by decide)).trans ?_
  show wG (d + 2) 52 (0, [.ref 81], [], mkH E ro) Q = _
  refine (r_aload_n rfl rfl rfl).trans ?_
  refine (r_inv (m := 47) (c := 3) rfl rfl rfl rfl rfl rfl rfl rfl).trans ?_
  refine (x_X3_here (d := d) s_E).trans ?_
  show wG (d + 2) 52 (4, [.ref 81], [.int (f_X3_here ro)], mkH E ro) Q = _
  refine (r_bipush (v := 41) rfl rfl rfl).trans ?_
  refine (r_icmp_eq rfl rfl rfl).trans ?_
  refine Eq.trans (ite_congr rfl (fun h_0 => ?_) (fun h_0 => ?_)) q_is
  · refine (r_aload_n rfl rfl rfl).trans ?_
    refine (r_dupR rfl rfl).trans ?_
    refine (r_getI (ci := 3) (sl := 2) rfl rfl rfl rfl (by decide)).trans ?_
    refine (r_iconst (v := 1) rfl rfl rfl).trans ?_
    refine (r_iadd rfl rfl).trans ?_
    refine (r_putI (ci := 3) (sl := 2) rfl rfl rfl rfl (by decide)).trans ?_
    refine (r_iconst (v := 1) rfl rfl rfl).trans ?_
    exact r_zret rfl rfl rfl
  · refine (r_iconst (v := 0) rfl rfl rfl).trans ?_
    exact r_zret rfl rfl rfl
theorem z_X3_readsClosing {ro : Nat → Nat → Int32} : narrow .boolean (.int (f_X3_readsClosing ro)) = .int (f_X3_readsClosing ro) := by
  unfold f_X3_readsClosing
  (repeat' split) <;> first | rfl

def g_X4_overwrite (ro : Nat → Nat → Int32) (r0 : Nat) (c_h0 : Nat) (x1 : Int32) (r2 : Nat) (c_h2 : Nat) (x3 : Int32) (x4 : Int32) : Nat → Nat → Int32 := (if (f_X4_holds ro r2 c_h2 x3 x4) = 0 then ro else (if (f_X4_holds ro r0 c_h0 x1 x4) = 0 then ro else (va_up ro (r0 + 1) (va_cpy (ro (r2 + 1)) (ro (r0 + 1)) x3.toNatClampNeg x1.toNatClampNeg x4.toNatClampNeg))))
theorem x_X4_overwrite {d : Nat} {E : pEv} {ro : Nat → Nat → Int32} {Q : Option Value → pH → Prop} (s_E : oE E) {r0 c_h0 : Nat} (h0 : oRow r0 c_h0) {x1 : Int32} {r2 c_h2 : Nat} (h2 : oRow r2 c_h2) {x3 : Int32} {x4 : Int32} (b0 : (¬ (f_X4_holds ro r2 c_h2 x3 x4) = 0) → (¬ (f_X4_holds ro r0 c_h0 x1 x4) = 0) → (¬ x3 < 0)) (b1 : (¬ (f_X4_holds ro r2 c_h2 x3 x4) = 0) → (¬ (f_X4_holds ro r0 c_h0 x1 x4) = 0) → (¬ x1 < 0)) (b2 : (¬ (f_X4_holds ro r2 c_h2 x3 x4) = 0) → (¬ (f_X4_holds ro r0 c_h0 x1 x4) = 0) → (¬ x4 < 0)) (b3 : (¬ (f_X4_holds ro r2 c_h2 x3 x4) = 0) → (¬ (f_X4_holds ro r0 c_h0 x1 x4) = 0) → (x3.toNatClampNeg + x4.toNatClampNeg ≤ c_h2)) (b4 : (¬ (f_X4_holds ro r2 c_h2 x3 x4) = 0) → (¬ (f_X4_holds ro r0 c_h0 x1 x4) = 0) → (x1.toNatClampNeg + x4.toNatClampNeg ≤ c_h0)) : wX (d + 3) 71 [.ref r0, .int x1, .ref r2, .int x3, .int x4] (mkH E ro) Q = Q none (mkH E (g_X4_overwrite ro r0 c_h0 x1 r2 c_h2 x3 x4)) := by
  show _ = Q none (mkH E (if (f_X4_holds ro r2 c_h2 x3 x4) = 0 then ro else (if (f_X4_holds ro r0 c_h0 x1 x4) = 0 then ro else (va_up ro (r0 + 1) (va_cpy (ro (r2 + 1)) (ro (r0 + 1)) x3.toNatClampNeg x1.toNatClampNeg x4.toNatClampNeg)))))
  refine (wX_in rfl (by decide)).trans ?_
  show wG (d + 2) 71 (0, [.ref r0, .int x1, .ref r2, .int x3, .int x4], [], mkH E ro) Q = _
  refine (r_aload_n rfl rfl rfl).trans ?_
  refine (r_iload_n rfl rfl rfl).trans ?_
  refine (r_iload rfl rfl rfl).trans ?_
  refine (r_inv (m := 257) (c := 4) rfl rfl rfl rfl rfl rfl h2.2.1 rfl).trans ?_
  refine (x_X4_holds (d := d) s_E h2).trans ?_
  show wG (d + 2) 71 (7, [.ref r0, .int x1, .ref r2, .int x3, .int x4], [.int (f_X4_holds ro r2 c_h2 x3 x4)], mkH E ro) Q = _
  refine (r_if_eq rfl rfl rfl).trans ?_
  refine Eq.trans (ite_congr rfl (fun h_0 => ?_) (fun h_0 => ?_)) q_v
  · exact r_vret rfl rfl
  · refine (r_aload_n rfl rfl rfl).trans ?_
    refine (r_iload_n rfl rfl rfl).trans ?_
    refine (r_iload rfl rfl rfl).trans ?_
    refine (r_inv (m := 257) (c := 4) rfl rfl rfl rfl rfl rfl h0.2.1 rfl).trans ?_
    refine (x_X4_holds (d := d) s_E h0).trans ?_
    show wG (d + 2) 71 (17, [.ref r0, .int x1, .ref r2, .int x3, .int x4], [.int (f_X4_holds ro r0 c_h0 x1 x4)], mkH E ro) Q = _
    refine (r_if_eq rfl rfl rfl).trans ?_
    refine Eq.trans (ite_congr rfl (fun h_1 => ?_) (fun h_1 => ?_)) q_v
    · exact r_vret rfl rfl
    · refine (r_aload_n rfl rfl rfl).trans ?_
      refine (r_getR (ci := 4) (sl := 0) s_E rfl rfl rfl h2.2.1 h2.1 h2.2.2.1 (n81 h2.2.1 (by decide))).trans ?_
      refine (r_iload_n rfl rfl rfl).trans ?_
      refine (r_aload_n rfl rfl rfl).trans ?_
      refine (r_getR (ci := 4) (sl := 0) s_E rfl rfl rfl h0.2.1 h0.1 h0.2.2.1 (n81 h0.2.1 (by decide))).trans ?_
      refine (r_iload_n rfl rfl rfl).trans ?_
      refine (r_iload rfl rfl rfl).trans ?_
      refine (r_copy rfl rfl h2.2.2.2 h0.2.2.2 (Nat.le_succ_of_le h2.1) (Nat.le_succ_of_le h0.1) (b0 h_0 h_1) (b1 h_0 h_1) (b2 h_0 h_1) (b3 h_0 h_1) (b4 h_0 h_1) rfl).trans ?_
      exact r_vret rfl rfl

def g_X5_begin (ro : Nat → Nat → Int32) (r0 : Nat) (x1 : Int32) (x2 : Int32) (x3 : Int32) (x4 : Int32) : Nat → Nat → Int32 := (g_X5_carry (uI (uI (uI (uI (uI (uI ro r0 1 (x1 / 10)) r0 2 (x1 - x1 / 10 * 10)) r0 3 x2) r0 4 x3) r0 5 x4) r0 9 1) r0 4 0 0)
theorem x_X5_begin {d : Nat} {E : pEv} {ro : Nat → Nat → Int32} {Q : Option Value → pH → Prop} (s_E : oE E) {r0 : Nat} (h0 : oScene r0) {x1 : Int32} {x2 : Int32} {x3 : Int32} {x4 : Int32} : wX (d + 2) 73 [.ref r0, .int x1, .int x2, .int x3, .int x4] (mkH E ro) Q = Q none (mkH E (g_X5_begin ro r0 x1 x2 x3 x4)) := by
  show _ = Q none (mkH E (g_X5_carry (uI (uI (uI (uI (uI (uI ro r0 1 (x1 / 10)) r0 2 (x1 - x1 / 10 * 10)) r0 3 x2) r0 4 x3) r0 5 x4) r0 9 1) r0 4 0 0))
  refine (wX_in rfl (by decide)).trans ?_
  show wG (d + 1) 73 (0, [.ref r0, .int x1, .int x2, .int x3, .int x4], [], mkH E ro) Q = _
  refine (r_aload_n rfl rfl rfl).trans ?_
  refine (r_iload_n rfl rfl rfl).trans ?_
  refine (r_bipush (v := 10) rfl rfl rfl).trans ?_
  refine (r_idiv rfl rfl (by decide)).trans ?_
  refine (r_putI (ci := 5) (sl := 1) rfl rfl rfl h0.2.1 h0.1).trans ?_
  refine (r_aload_n rfl rfl rfl).trans ?_
  refine (r_iload_n rfl rfl rfl).trans ?_
  refine (r_bipush (v := 10) rfl rfl rfl).trans ?_
  refine (r_irem rfl rfl (by decide)).trans ?_
  refine (r_putI (ci := 5) (sl := 2) rfl rfl rfl h0.2.1 h0.1).trans ?_
  refine (r_aload_n rfl rfl rfl).trans ?_
  refine (r_iload_n rfl rfl rfl).trans ?_
  refine (r_putI (ci := 5) (sl := 3) rfl rfl rfl h0.2.1 h0.1).trans ?_
  refine (r_aload_n rfl rfl rfl).trans ?_
  refine (r_iload_n rfl rfl rfl).trans ?_
  refine (r_putI (ci := 5) (sl := 4) rfl rfl rfl h0.2.1 h0.1).trans ?_
  refine (r_aload_n rfl rfl rfl).trans ?_
  refine (r_iload rfl rfl rfl).trans ?_
  refine (r_putI (ci := 5) (sl := 5) rfl rfl rfl h0.2.1 h0.1).trans ?_
  refine (r_aload_n rfl rfl rfl).trans ?_
  refine (r_iconst (v := 1) rfl rfl rfl).trans ?_
  refine (r_putI (ci := 5) (sl := 9) rfl rfl rfl h0.2.1 h0.1).trans ?_
  refine (r_aload_n rfl rfl rfl).trans ?_
  refine (r_iconst (v := 4) rfl rfl rfl).trans ?_
  refine (r_iconst (v := 0) rfl rfl rfl).trans ?_
  refine (r_iconst (v := 0) rfl rfl rfl).trans ?_
  refine (r_inv (m := 74) (c := 5) rfl rfl rfl rfl rfl rfl h0.2.1 rfl).trans ?_
  refine (x_X5_carry (d := d) s_E h0).trans ?_
  show wG (d + 1) 73 (44, [.ref r0, .int x1, .int x2, .int x3, .int x4], [], mkH E (g_X5_carry (uI (uI (uI (uI (uI (uI ro r0 1 (x1 / 10)) r0 2 (x1 - x1 / 10 * 10)) r0 3 x2) r0 4 x3) r0 5 x4) r0 9 1) r0 4 0 0)) Q = _
  exact r_vret rfl rfl

def f_X5_own (ro : Nat → Nat → Int32) (r0 : Nat) (x1 : Int32) : Int32 := (if x1 = 0 then ro r0 1 else (if x1 = 1 then ro r0 2 else (if x1 = 2 then ro r0 3 else (if x1 = 3 then ro r0 4 else (if x1 = 4 then ro r0 5 else (if x1 = 5 then ro r0 6 else (if x1 = 6 then ro r0 9 else f_X5_shock ro r0)))))))
theorem x_X5_own {d : Nat} {E : pEv} {ro : Nat → Nat → Int32} {Q : Option Value → pH → Prop} (s_E : oE E) {r0 : Nat} (h0 : oScene r0) {x1 : Int32} : wX (d + 2) 75 [.ref r0, .int x1] (mkH E ro) Q = Q (some (.int (f_X5_own ro r0 x1))) (mkH E ro) := by
  show _ = Q (some (.int (if x1 = 0 then ro r0 1 else (if x1 = 1 then ro r0 2 else (if x1 = 2 then ro r0 3 else (if x1 = 3 then ro r0 4 else (if x1 = 4 then ro r0 5 else (if x1 = 5 then ro r0 6 else (if x1 = 6 then ro r0 9 else f_X5_shock ro r0))))))))) (mkH E ro)
  refine (wX_in rfl (by decide)).trans ?_
  show wG (d + 1) 75 (0, [.ref r0, .int x1], [], mkH E ro) Q = _
  refine (r_iload_n rfl rfl rfl).trans ?_
  refine (r_sw (i := (78, 0, 6)) rfl rfl).trans ?_
  refine (r_swc (y := 0) rfl).trans ?_
  refine Eq.trans (ite_congr rfl (fun h_0 => ?_) (fun h_0 => ?_)) q_i
  · refine (r_aload_n rfl rfl rfl).trans ?_
    refine (r_getI (ci := 5) (sl := 1) rfl rfl rfl h0.2.1 h0.1).trans ?_
    exact r_iret rfl rfl
  · refine (r_swc (y := 1) rfl).trans ?_
    refine Eq.trans (ite_congr rfl (fun h_1 => ?_) (fun h_1 => ?_)) q_i
    · refine (r_aload_n rfl rfl rfl).trans ?_
      refine (r_getI (ci := 5) (sl := 2) rfl rfl rfl h0.2.1 h0.1).trans ?_
      exact r_iret rfl rfl
    · refine (r_swc (y := 2) rfl).trans ?_
      refine Eq.trans (ite_congr rfl (fun h_2 => ?_) (fun h_2 => ?_)) q_i
      · refine (r_aload_n rfl rfl rfl).trans ?_
        refine (r_getI (ci := 5) (sl := 3) rfl rfl rfl h0.2.1 h0.1).trans ?_
        exact r_iret rfl rfl
      · refine (r_swc (y := 3) rfl).trans ?_
        refine Eq.trans (ite_congr rfl (fun h_3 => ?_) (fun h_3 => ?_)) q_i
        · refine (r_aload_n rfl rfl rfl).trans ?_
          refine (r_getI (ci := 5) (sl := 4) rfl rfl rfl h0.2.1 h0.1).trans ?_
          exact r_iret rfl rfl
        · refine (r_swc (y := 4) rfl).trans ?_
          refine Eq.trans (ite_congr rfl (fun h_4 => ?_) (fun h_4 => ?_)) q_i
          · refine (r_aload_n rfl rfl rfl).trans ?_
            refine (r_getI (ci := 5) (sl := 5) rfl rfl rfl h0.2.1 h0.1).trans ?_
            exact r_iret rfl rfl
          · refine (r_swc (y := 5) rfl).trans ?_
            refine Eq.trans (ite_congr rfl (fun h_5 => ?_) (fun h_5 => ?_)) q_i
            · refine (r_aload_n rfl rfl rfl).trans ?_
              refine (r_getI (ci := 5) (sl := 6) rfl rfl rfl h0.2.1 h0.1).trans ?_
              exact r_iret rfl rfl
            · refine (r_swc (y := 6) rfl).trans ?_
              refine Eq.trans (ite_congr rfl (fun h_6 => ?_) (fun h_6 => ?_)) q_i
              · refine (r_aload_n rfl rfl rfl).trans ?_
                refine (r_getI (ci := 5) (sl := 9) rfl rfl rfl h0.2.1 h0.1).trans ?_
                exact r_iret rfl rfl
              · refine r_swn.trans ?_
                refine (r_aload_n rfl rfl rfl).trans ?_
                refine (r_inv (m := 78) (c := 5) rfl rfl rfl rfl rfl rfl h0.2.1 rfl).trans ?_
                refine (x_X5_shock (d := d) s_E h0).trans ?_
                show wG (d + 1) 75 (83, [.ref r0, .int x1], [.int (f_X5_shock ro r0)], mkH E ro) Q = _
                exact r_iret rfl rfl

def f_X5_mayHave (x0 : Int32) (x1 : Int32) : Int32 := (if x0 = 3 then f_X9_within x1 1 30 else (if x0 = 4 then f_X9_within x1 0 63 else (if x0 = 5 then 0 else (if x0 = 6 then f_X9_within x1 0 1 else 0))))
theorem x_X5_mayHave {d : Nat} {E : pEv} {ro : Nat → Nat → Int32} {Q : Option Value → pH → Prop} (s_E : oE E) {x0 : Int32} {x1 : Int32} : wX (d + 2) 76 [.int x0, .int x1] (mkH E ro) Q = Q (some (.int (f_X5_mayHave x0 x1))) (mkH E ro) := by
  show _ = Q (some (.int (if x0 = 3 then f_X9_within x1 1 30 else (if x0 = 4 then f_X9_within x1 0 63 else (if x0 = 5 then 0 else (if x0 = 6 then f_X9_within x1 0 1 else 0)))))) (mkH E ro)
  refine (wX_in rfl (by decide)).trans ?_
  show wG (d + 1) 76 (0, [.int x0, .int x1], [], mkH E ro) Q = _
  refine (r_iload_n rfl rfl rfl).trans ?_
  refine (r_sw (i := (54, 3, 6)) rfl rfl).trans ?_
  refine (r_swc (y := 3) rfl).trans ?_
  refine Eq.trans (ite_congr rfl (fun h_0 => ?_) (fun h_0 => ?_)) q_i
  · refine (r_iload_n rfl rfl rfl).trans ?_
    refine (r_iconst (v := 1) rfl rfl rfl).trans ?_
    refine (r_bipush (v := 30) rfl rfl rfl).trans ?_
    refine (r_ins (m := 146) rfl rfl rfl rfl rfl rfl).trans ?_
    refine (x_X9_within (d := d) s_E).trans ?_
    show wG (d + 1) 76 (39, [.int x0, .int x1], [.int (f_X9_within x1 1 30)], mkH E ro) Q = _
    exact r_zret rfl rfl (z_X9_within)
  · refine (r_swc (y := 4) rfl).trans ?_
    refine Eq.trans (ite_congr rfl (fun h_1 => ?_) (fun h_1 => ?_)) q_i
    · refine (r_iload_n rfl rfl rfl).trans ?_
      refine (r_iconst (v := 0) rfl rfl rfl).trans ?_
      refine (r_bipush (v := 63) rfl rfl rfl).trans ?_
      refine (r_ins (m := 146) rfl rfl rfl rfl rfl rfl).trans ?_
      refine (x_X9_within (d := d) s_E).trans ?_
      show wG (d + 1) 76 (47, [.int x0, .int x1], [.int (f_X9_within x1 0 63)], mkH E ro) Q = _
      exact r_zret rfl rfl (z_X9_within)
    · refine (r_swc (y := 5) rfl).trans ?_
      refine Eq.trans (ite_congr rfl (fun h_2 => ?_) (fun h_2 => ?_)) q_i
      · refine (r_iconst (v := 0) rfl rfl rfl).trans ?_
        exact r_zret rfl rfl rfl
      · refine (r_swc (y := 6) rfl).trans ?_
        refine Eq.trans (ite_congr rfl (fun h_3 => ?_) (fun h_3 => ?_)) q_i
        · refine (r_iload_n rfl rfl rfl).trans ?_
          refine (r_iconst (v := 0) rfl rfl rfl).trans ?_
          refine (r_iconst (v := 1) rfl rfl rfl).trans ?_
          refine (r_ins (m := 146) rfl rfl rfl rfl rfl rfl).trans ?_
          refine (x_X9_within (d := d) s_E).trans ?_
          show wG (d + 1) 76 (54, [.int x0, .int x1], [.int (f_X9_within x1 0 1)], mkH E ro) Q = _
          exact r_zret rfl rfl (z_X9_within)
        · refine r_swn.trans ?_
          refine (r_iconst (v := 0) rfl rfl rfl).trans ?_
          exact r_zret rfl rfl rfl
theorem z_X5_mayHave {x0 : Int32} {x1 : Int32} : narrow .boolean (.int (f_X5_mayHave x0 x1)) = .int (f_X5_mayHave x0 x1) := by
  unfold f_X5_mayHave
  (repeat' split) <;> first | rfl | exact z_X9_within

def f_X5_change (ro : Nat → Nat → Int32) (r0 : Nat) (x1 : Int32) (x2 : Int32) : Int32 := (if x1 = 3 then f_X5_own ro r0 x1 else (if x1 = 4 then f_X5_own ro r0 x1 else f_X5_own ro r0 x1))
def g_X5_change (ro : Nat → Nat → Int32) (r0 : Nat) (x1 : Int32) (x2 : Int32) : Nat → Nat → Int32 := (if x1 = 3 then (uI ro r0 4 x2) else (if x1 = 4 then (uI ro r0 5 x2) else (uI ro r0 9 x2)))
theorem x_X5_change {d : Nat} {E : pEv} {ro : Nat → Nat → Int32} {Q : Option Value → pH → Prop} (s_E : oE E) {r0 : Nat} (h0 : oScene r0) {x1 : Int32} {x2 : Int32} : wX (d + 3) 77 [.ref r0, .int x1, .int x2] (mkH E ro) Q = Q (some (.int (f_X5_change ro r0 x1 x2))) (mkH E (g_X5_change ro r0 x1 x2)) := by
  show _ = Q (some (.int (if x1 = 3 then f_X5_own ro r0 x1 else (if x1 = 4 then f_X5_own ro r0 x1 else f_X5_own ro r0 x1)))) (mkH E (if x1 = 3 then (uI ro r0 4 x2) else (if x1 = 4 then (uI ro r0 5 x2) else (uI ro r0 9 x2))))
  refine (wX_in rfl (by decide)).trans ?_
  show wG (d + 2) 77 (0, [.ref r0, .int x1, .int x2, .retAddr 0], [], mkH E ro) Q = _
  refine (r_aload_n rfl rfl rfl).trans ?_
  refine (r_iload_n rfl rfl rfl).trans ?_
  refine (r_inv (m := 75) (c := 5) rfl rfl rfl rfl rfl rfl h0.2.1 rfl).trans ?_
  refine (x_X5_own (d := d) s_E h0).trans ?_
  show wG (d + 2) 77 (5, [.ref r0, .int x1, .int x2, .retAddr 0], [.int (f_X5_own ro r0 x1)], mkH E ro) Q = _
  refine (r_istore_n rfl rfl rfl rfl).trans ?_
  refine (r_iload_n rfl rfl rfl).trans ?_
  refine (r_lk rfl rfl).trans ?_
  refine (r_swc (y := 3) rfl).trans ?_
  refine Eq.trans (ite_congr rfl (fun h_0 => ?_) (fun h_0 => ?_)) q_is
  · refine (r_aload_n rfl rfl rfl).trans ?_
    refine (r_iload_n rfl rfl rfl).trans ?_
    refine (r_putI (ci := 5) (sl := 4) rfl rfl rfl h0.2.1 h0.1).trans ?_
    refine (r_goto rfl rfl).trans ?_
    refine (r_iload_n rfl rfl rfl).trans ?_
    exact r_iret rfl rfl
  · refine (r_swc (y := 4) rfl).trans ?_
    refine Eq.trans (ite_congr rfl (fun h_1 => ?_) (fun h_1 => ?_)) q_is
    · refine (r_aload_n rfl rfl rfl).trans ?_
      refine (r_iload_n rfl rfl rfl).trans ?_
      refine (r_putI (ci := 5) (sl := 5) rfl rfl rfl h0.2.1 h0.1).trans ?_
      refine (r_goto rfl rfl).trans ?_
      refine (r_iload_n rfl rfl rfl).trans ?_
      exact r_iret rfl rfl
    · refine r_swn.trans ?_
      refine (r_aload_n rfl rfl rfl).trans ?_
      refine (r_iload_n rfl rfl rfl).trans ?_
      refine (r_putI (ci := 5) (sl := 9) rfl rfl rfl h0.2.1 h0.1).trans ?_
      refine (r_iload_n rfl rfl rfl).trans ?_
      exact r_iret rfl rfl

def f_X5_comesOf (ro : Nat → Nat → Int32) (r0 : Nat) (x1 : Int32) (x2 : Int32) : Int32 := (if x2 = 0 then (if x1 = (f_J6_bitCount_0f7a4 (ro r0 3)) then 1 else 0) else (if x2 = 1 then (if x1 < 1 then 0 else 1) else (if x2 = 2 then (if (x1 - x1 / 2 * 2) = 1 then 1 else 0) else (if x2 = 3 then (if x1 < (f_J6_bitCount_0f7a4 (ro r0 3)) then 1 else 0) else (if x2 = 4 then (if x1 < (1 + ((ro r0 2) - (ro r0 2) / 3 * 3)) then 0 else 1) else (if x2 = 5 then (if (x1 - x1 / 2 * 2) = 1 then (if ((ro r0 2) - (ro r0 2) / 2 * 2) = 1 then 0 else 1) else (if ((ro r0 2) - (ro r0 2) / 2 * 2) = 1 then 1 else 0)) else (if 4 < (ro r0 2) then 1 else (if x1 < (f_J6_bitCount_0f7a4 (ro r0 3)) then 1 else 0))))))))
theorem x_X5_comesOf {d : Nat} {E : pEv} {ro : Nat → Nat → Int32} {Q : Option Value → pH → Prop} (s_E : oE E) {r0 : Nat} (h0 : oScene r0) {x1 : Int32} {x2 : Int32} : wX (d + 2) 79 [.ref r0, .int x1, .int x2] (mkH E ro) Q = Q (some (.int (f_X5_comesOf ro r0 x1 x2))) (mkH E ro) := by
  show _ = Q (some (.int (if x2 = 0 then (if x1 = (f_J6_bitCount_0f7a4 (ro r0 3)) then 1 else 0) else (if x2 = 1 then (if x1 < 1 then 0 else 1) else (if x2 = 2 then (if (x1 - x1 / 2 * 2) = 1 then 1 else 0) else (if x2 = 3 then (if x1 < (f_J6_bitCount_0f7a4 (ro r0 3)) then 1 else 0) else (if x2 = 4 then (if x1 < (1 + ((ro r0 2) - (ro r0 2) / 3 * 3)) then 0 else 1) else (if x2 = 5 then (if (x1 - x1 / 2 * 2) = 1 then (if ((ro r0 2) - (ro r0 2) / 2 * 2) = 1 then 0 else 1) else (if ((ro r0 2) - (ro r0 2) / 2 * 2) = 1 then 1 else 0)) else (if 4 < (ro r0 2) then 1 else (if x1 < (f_J6_bitCount_0f7a4 (ro r0 3)) then 1 else 0)))))))))) (mkH E ro)
  refine (wX_in rfl (by decide)).trans ?_
  show wG (d + 1) 79 (0, [.ref r0, .int x1, .int x2, .retAddr 0], [], mkH E ro) Q = _
  refine (r_aload_n rfl rfl rfl).trans ?_
  refine (r_getI (ci := 5) (sl := 3) rfl rfl rfl h0.2.1 h0.1).trans ?_
  refine (r_ins (m := 255) rfl rfl rfl rfl rfl rfl).trans ?_
  refine (x_J6_bitCount_0f7a4 (d := d) s_E).trans ?_
  show wG (d + 1) 79 (7, [.ref r0, .int x1, .int x2, .retAddr 0], [.int (f_J6_bitCount_0f7a4 (ro r0 3))], mkH E ro) Q = _
  refine (r_istore_n rfl rfl rfl rfl).trans ?_
  refine (r_iload_n rfl rfl rfl).trans ?_
  refine (r_sw (i := (139, 0, 5)) rfl rfl).trans ?_
  refine (r_swc (y := 0) rfl).trans ?_
  refine Eq.trans (ite_congr rfl (fun h_0 => ?_) (fun h_0 => ?_)) q_i
  · refine (r_iload_n rfl rfl rfl).trans ?_
    refine (r_iload_n rfl rfl rfl).trans ?_
    refine (r_icmp_ne rfl rfl rfl).trans ?_
    refine Eq.trans (ite_congr rfl (fun h_1 => ?_) (fun h_1 => ?_)) q_i
    · refine (r_iconst (v := 1) rfl rfl rfl).trans ?_
      refine (r_goto rfl rfl).trans ?_
      exact r_zret rfl rfl rfl
    · refine (r_iconst (v := 0) rfl rfl rfl).trans ?_
      exact r_zret rfl rfl rfl
  · refine (r_swc (y := 1) rfl).trans ?_
    refine Eq.trans (ite_congr rfl (fun h_1 => ?_) (fun h_1 => ?_)) q_i
    · refine (r_iload_n rfl rfl rfl).trans ?_
      refine (r_iconst (v := 1) rfl rfl rfl).trans ?_
      refine (r_icmp_lt rfl rfl rfl).trans ?_
      refine Eq.trans (ite_congr rfl (fun h_2 => ?_) (fun h_2 => ?_)) q_i
      · refine (r_iconst (v := 0) rfl rfl rfl).trans ?_
        exact r_zret rfl rfl rfl
      · refine (r_iconst (v := 1) rfl rfl rfl).trans ?_
        refine (r_goto rfl rfl).trans ?_
        exact r_zret rfl rfl rfl
    · refine (r_swc (y := 2) rfl).trans ?_
      refine Eq.trans (ite_congr rfl (fun h_2 => ?_) (fun h_2 => ?_)) q_i
      · refine (r_iload_n rfl rfl rfl).trans ?_
        refine (r_iconst (v := 2) rfl rfl rfl).trans ?_
        refine (r_irem rfl rfl (by decide)).trans ?_
        refine (r_iconst (v := 1) rfl rfl rfl).trans ?_
        refine (r_icmp_ne rfl rfl rfl).trans ?_
        refine Eq.trans (ite_congr rfl (fun h_3 => ?_) (fun h_3 => ?_)) q_i
        · refine (r_iconst (v := 1) rfl rfl rfl).trans ?_
          refine (r_goto rfl rfl).trans ?_
          exact r_zret rfl rfl rfl
        · refine (r_iconst (v := 0) rfl rfl rfl).trans ?_
          exact r_zret rfl rfl rfl
      · refine (r_swc (y := 3) rfl).trans ?_
        refine Eq.trans (ite_congr rfl (fun h_3 => ?_) (fun h_3 => ?_)) q_i
        · refine (r_iload_n rfl rfl rfl).trans ?_
          refine (r_iload_n rfl rfl rfl).trans ?_
          refine (r_icmp_ge rfl rfl rfl).trans ?_
          refine Eq.trans (ite_congr rfl (fun h_4 => ?_) (fun h_4 => ?_)) q_i
          · refine (r_iconst (v := 1) rfl rfl rfl).trans ?_
            refine (r_goto rfl rfl).trans ?_
            exact r_zret rfl rfl rfl
          · refine (r_iconst (v := 0) rfl rfl rfl).trans ?_
            exact r_zret rfl rfl rfl
        · refine (r_swc (y := 4) rfl).trans ?_
          refine Eq.trans (ite_congr rfl (fun h_4 => ?_) (fun h_4 => ?_)) q_i
          · refine (r_iload_n rfl rfl rfl).trans ?_
            refine (r_iconst (v := 1) rfl rfl rfl).trans ?_
            refine (r_aload_n rfl rfl rfl).trans ?_
            refine (r_getI (ci := 5) (sl := 2) rfl rfl rfl h0.2.1 h0.1).trans ?_
            refine (r_iconst (v := 3) rfl rfl rfl).trans ?_
            refine (r_irem rfl rfl (by decide)).trans ?_
            refine (r_iadd rfl rfl).trans ?_
            refine (r_icmp_lt rfl rfl rfl).trans ?_
            refine Eq.trans (ite_congr rfl (fun h_5 => ?_) (fun h_5 => ?_)) q_i
            · refine (r_iconst (v := 0) rfl rfl rfl).trans ?_
              exact r_zret rfl rfl rfl
            · refine (r_iconst (v := 1) rfl rfl rfl).trans ?_
              refine (r_goto rfl rfl).trans ?_
              exact r_zret rfl rfl rfl
          · refine (r_swc (y := 5) rfl).trans ?_
            refine Eq.trans (ite_congr rfl (fun h_5 => ?_) (fun h_5 => ?_)) q_i
            · refine (r_iload_n rfl rfl rfl).trans ?_
              refine (r_iconst (v := 2) rfl rfl rfl).trans ?_
              refine (r_irem rfl rfl (by decide)).trans ?_
              refine (r_iconst (v := 1) rfl rfl rfl).trans ?_
              refine (r_icmp_ne rfl rfl rfl).trans ?_
              refine Eq.trans (ite_congr rfl (fun h_6 => ?_) (fun h_6 => ?_)) q_i
              · refine (r_iconst (v := 1) rfl rfl rfl).trans ?_
                refine (r_goto rfl rfl).trans ?_
                refine (r_aload_n rfl rfl rfl).trans ?_
                refine (r_getI (ci := 5) (sl := 2) rfl rfl rfl h0.2.1 h0.1).trans ?_
                refine (r_iconst (v := 2) rfl rfl rfl).trans ?_
                refine (r_irem rfl rfl (by decide)).trans ?_
                refine (r_iconst (v := 1) rfl rfl rfl).trans ?_
                refine (r_icmp_ne rfl rfl rfl).trans ?_
                refine Eq.trans (ite_congr rfl (fun h_7 => ?_) (fun h_7 => ?_)) q_i
                · refine (r_iconst (v := 1) rfl rfl rfl).trans ?_
                  refine (r_goto rfl rfl).trans ?_
                  refine (r_icmp_eq rfl rfl rfl).trans ?_
                  refine (if_pos (by decide)).trans ?_
                  refine (r_iconst (v := 0) rfl rfl rfl).trans ?_
                  exact r_zret rfl rfl rfl
                · refine (r_iconst (v := 0) rfl rfl rfl).trans ?_
                  refine (r_icmp_eq rfl rfl rfl).trans ?_
                  refine (if_neg (by decide)).trans ?_
                  refine (r_iconst (v := 1) rfl rfl rfl).trans ?_
                  refine (r_goto rfl rfl).trans ?_
                  exact r_zret rfl rfl rfl
              · refine (r_iconst (v := 0) rfl rfl rfl).trans ?_
                refine (r_aload_n rfl rfl rfl).trans ?_
                refine (r_getI (ci := 5) (sl := 2) rfl rfl rfl h0.2.1 h0.1).trans ?_
                refine (r_iconst (v := 2) rfl rfl rfl).trans ?_
                refine (r_irem rfl rfl (by decide)).trans ?_
                refine (r_iconst (v := 1) rfl rfl rfl).trans ?_
                refine (r_icmp_ne rfl rfl rfl).trans ?_
                refine Eq.trans (ite_congr rfl (fun h_7 => ?_) (fun h_7 => ?_)) q_i
                · refine (r_iconst (v := 1) rfl rfl rfl).trans ?_
                  refine (r_goto rfl rfl).trans ?_
                  refine (r_icmp_eq rfl rfl rfl).trans ?_
                  refine (if_neg (by decide)).trans ?_
                  refine (r_iconst (v := 1) rfl rfl rfl).trans ?_
                  refine (r_goto rfl rfl).trans ?_
                  exact r_zret rfl rfl rfl
                · refine (r_iconst (v := 0) rfl rfl rfl).trans ?_
                  refine (r_icmp_eq rfl rfl rfl).trans ?_
                  refine (if_pos (by decide)).trans ?_
                  refine (r_iconst (v := 0) rfl rfl rfl).trans ?_
                  exact r_zret rfl rfl rfl
            · refine r_swn.trans ?_
              refine (r_aload_n rfl rfl rfl).trans ?_
              refine (r_getI (ci := 5) (sl := 2) rfl rfl rfl h0.2.1 h0.1).trans ?_
              refine (r_iconst (v := 4) rfl rfl rfl).trans ?_
              refine (r_icmp_gt rfl rfl rfl).trans ?_
              refine Eq.trans (ite_congr rfl (fun h_6 => ?_) (fun h_6 => ?_)) q_i
              · refine (r_iconst (v := 1) rfl rfl rfl).trans ?_
                refine (r_goto rfl rfl).trans ?_
                exact r_zret rfl rfl rfl
              · refine (r_iload_n rfl rfl rfl).trans ?_
                refine (r_iload_n rfl rfl rfl).trans ?_
                refine (r_icmp_ge rfl rfl rfl).trans ?_
                refine Eq.trans (ite_congr rfl (fun h_7 => ?_) (fun h_7 => ?_)) q_i
                · refine (r_iconst (v := 1) rfl rfl rfl).trans ?_
                  refine (r_goto rfl rfl).trans ?_
                  exact r_zret rfl rfl rfl
                · refine (r_iconst (v := 0) rfl rfl rfl).trans ?_
                  exact r_zret rfl rfl rfl
theorem z_X5_comesOf {ro : Nat → Nat → Int32} {r0 : Nat} {x1 : Int32} {x2 : Int32} : narrow .boolean (.int (f_X5_comesOf ro r0 x1 x2)) = .int (f_X5_comesOf ro r0 x1 x2) := by
  unfold f_X5_comesOf
  (repeat' split) <;> first | rfl

def f_X9_wrong (x1 : Int32) : Int32 := (if (f_X9_within ((-1000000000) - x1) 1 5) = 0 then x1 else x1)
def g_X9_wrong (ro : Nat → Nat → Int32) (x1 : Int32) : Nat → Nat → Int32 := (if (f_X9_within ((-1000000000) - x1) 1 5) = 0 then ro else (uI ro 100 (((-1000000000) - x1) - 1).toNatClampNeg ((ro 100 (((-1000000000) - x1) - 1).toNatClampNeg) + 1)))
theorem x_X9_wrong {d : Nat} {E : pEv} {ro : Nat → Nat → Int32} {Q : Option Value → pH → Prop} (s_E : oE E) {x1 : Int32} (b0 : (¬ (f_X9_within ((-1000000000) - x1) 1 5) = 0) → (¬ (((-1000000000) - x1) - 1) < 0 ∧ (((-1000000000) - x1) - 1).toNatClampNeg < 5)) : wX (d + 2) 136 [.ref 10, .int x1] (mkH E ro) Q = Q (some (.int (f_X9_wrong x1))) (mkH E (g_X9_wrong ro x1)) := by
  show _ = Q (some (.int (if (f_X9_within ((-1000000000) - x1) 1 5) = 0 then x1 else x1))) (mkH E (if (f_X9_within ((-1000000000) - x1) 1 5) = 0 then ro else (uI ro 100 (((-1000000000) - x1) - 1).toNatClampNeg ((ro 100 (((-1000000000) - x1) - 1).toNatClampNeg) + 1))))
  refine (wX_in rfl (by decide)).trans ?_
  show wG (d + 1) 136 (0, [.ref 10, .int x1, .retAddr 0], [], mkH E ro) Q = _
  refine (r_ldc_w (v := (-1000000000)) rfl rfl rfl).trans ?_
  refine (r_iload_n rfl rfl rfl).trans ?_
  refine (r_isub rfl rfl).trans ?_
  refine (r_istore_n rfl rfl rfl rfl).trans ?_
  refine (r_iload_n rfl rfl rfl).trans ?_
  refine (r_iconst (v := 1) rfl rfl rfl).trans ?_
  refine (r_iconst (v := 5) rfl rfl rfl).trans ?_
  refine (r_ins (m := 146) rfl rfl rfl rfl rfl rfl).trans ?_
  refine (x_X9_within (d := d) s_E).trans ?_
  show wG (d + 1) 136 (12, [.ref 10, .int x1, .int ((-1000000000) - x1)], [.int (f_X9_within ((-1000000000) - x1) 1 5)], mkH E ro) Q = _
  refine (r_if_eq rfl rfl rfl).trans ?_
  refine Eq.trans (ite_congr rfl (fun h_0 => ?_) (fun h_0 => ?_)) q_is
  · refine (r_iload_n rfl rfl rfl).trans ?_
    exact r_iret rfl rfl
  · refine (r_aload_n rfl rfl rfl).trans ?_
    refine (r_getR (ci := 9) (sl := 7) s_E rfl rfl rfl rfl (by decide) rfl rfl).trans ?_
    refine (r_iload_n rfl rfl rfl).trans ?_
    refine (r_iconst (v := 1) rfl rfl rfl).trans ?_
    refine (r_isub rfl rfl).trans ?_
    refine (r_dup2 rfl rfl).trans ?_
    refine (r_iald rfl rfl rfl (by decide) (b0 h_0)).trans ?_
    refine (r_iconst (v := 1) rfl rfl rfl).trans ?_
    refine (r_iadd rfl rfl).trans ?_
    refine (r_iast rfl rfl rfl (by decide) (b0 h_0)).trans ?_
    refine (r_iload_n rfl rfl rfl).trans ?_
    exact r_iret rfl rfl

def f_X9_stands (ro : Nat → Nat → Int32) (x1 : Int32) : Int32 := f_X9_within x1 0 ((ro 11 7) - 1)
theorem x_X9_stands {d : Nat} {E : pEv} {ro : Nat → Nat → Int32} {Q : Option Value → pH → Prop} (s_E : oE E) {x1 : Int32} : wX (d + 2) 137 [.ref 10, .int x1] (mkH E ro) Q = Q (some (.int (f_X9_stands ro x1))) (mkH E ro) := by
  show _ = Q (some (.int (f_X9_within x1 0 ((ro 11 7) - 1)))) (mkH E ro)
  refine (wX_in rfl (by decide)).trans ?_
  show wG (d + 1) 137 (0, [.ref 10, .int x1], [], mkH E ro) Q = _
  refine (r_iload_n rfl rfl rfl).trans ?_
  refine (r_iconst (v := 0) rfl rfl rfl).trans ?_
  refine (r_aload_n rfl rfl rfl).trans ?_
  refine (r_getR (ci := 9) (sl := 0) s_E rfl rfl rfl rfl (by decide) rfl rfl).trans ?_
  refine (r_getI (ci := 2) (sl := 7) rfl rfl rfl rfl (by decide)).trans ?_
  refine (r_iconst (v := 1) rfl rfl rfl).trans ?_
  refine (r_isub rfl rfl).trans ?_
  refine (r_ins (m := 146) rfl rfl rfl rfl rfl rfl).trans ?_
  refine (x_X9_within (d := d) s_E).trans ?_
  show wG (d + 1) 137 (14, [.ref 10, .int x1], [.int (f_X9_within x1 0 ((ro 11 7) - 1))], mkH E ro) Q = _
  exact r_zret rfl rfl (z_X9_within)
theorem z_X9_stands {ro : Nat → Nat → Int32} {x1 : Int32} : narrow .boolean (.int (f_X9_stands ro x1)) = .int (f_X9_stands ro x1) := by
  unfold f_X9_stands
  (repeat' split) <;> first | rfl | exact z_X9_within

def f_X9_isPlace (ro : Nat → Nat → Int32) (x1 : Int32) : Int32 := f_X9_within x1 0 ((ro 11 7) - 1)
theorem x_X9_isPlace {d : Nat} {E : pEv} {ro : Nat → Nat → Int32} {Q : Option Value → pH → Prop} (s_E : oE E) {x1 : Int32} : wX (d + 2) 138 [.ref 10, .int x1] (mkH E ro) Q = Q (some (.int (f_X9_isPlace ro x1))) (mkH E ro) := by
  show _ = Q (some (.int (f_X9_within x1 0 ((ro 11 7) - 1)))) (mkH E ro)
  refine (wX_in rfl (by decide)).trans ?_
  show wG (d + 1) 138 (0, [.ref 10, .int x1], [], mkH E ro) Q = _
  refine (r_iload_n rfl rfl rfl).trans ?_
  refine (r_iconst (v := 0) rfl rfl rfl).trans ?_
  refine (r_aload_n rfl rfl rfl).trans ?_
  refine (r_getR (ci := 9) (sl := 0) s_E rfl rfl rfl rfl (by decide) rfl rfl).trans ?_
  refine (r_getI (ci := 2) (sl := 7) rfl rfl rfl rfl (by decide)).trans ?_
  refine (r_iconst (v := 1) rfl rfl rfl).trans ?_
  refine (r_isub rfl rfl).trans ?_
  refine (r_ins (m := 146) rfl rfl rfl rfl rfl rfl).trans ?_
  refine (x_X9_within (d := d) s_E).trans ?_
  show wG (d + 1) 138 (14, [.ref 10, .int x1], [.int (f_X9_within x1 0 ((ro 11 7) - 1))], mkH E ro) Q = _
  exact r_zret rfl rfl (z_X9_within)
theorem z_X9_isPlace {ro : Nat → Nat → Int32} {x1 : Int32} : narrow .boolean (.int (f_X9_isPlace ro x1)) = .int (f_X9_isPlace ro x1) := by
  unfold f_X9_isPlace
  (repeat' split) <;> first | rfl | exact z_X9_within

def f_X9_isSet (ro : Nat → Nat → Int32) (x1 : Int32) : Int32 := f_X9_within x1 0 (f_X2_all ro)
theorem x_X9_isSet {d : Nat} {E : pEv} {ro : Nat → Nat → Int32} {Q : Option Value → pH → Prop} (s_E : oE E) {x1 : Int32} : wX (d + 2) 139 [.ref 10, .int x1] (mkH E ro) Q = Q (some (.int (f_X9_isSet ro x1))) (mkH E ro) := by
  show _ = Q (some (.int (f_X9_within x1 0 (f_X2_all ro)))) (mkH E ro)
  refine (wX_in rfl (by decide)).trans ?_
  show wG (d + 1) 139 (0, [.ref 10, .int x1], [], mkH E ro) Q = _
  refine (r_iload_n rfl rfl rfl).trans ?_
  refine (r_iconst (v := 0) rfl rfl rfl).trans ?_
  refine (r_aload_n rfl rfl rfl).trans ?_
  refine (r_getR (ci := 9) (sl := 0) s_E rfl rfl rfl rfl (by decide) rfl rfl).trans ?_
  refine (r_inv (m := 22) (c := 2) rfl rfl rfl rfl rfl rfl rfl rfl).trans ?_
  refine (x_X2_all (d := d) s_E).trans ?_
  show wG (d + 1) 139 (9, [.ref 10, .int x1], [.int (f_X2_all ro), .int 0, .int x1], mkH E ro) Q = _
  refine (r_ins (m := 146) rfl rfl rfl rfl rfl rfl).trans ?_
  refine (x_X9_within (d := d) s_E).trans ?_
  show wG (d + 1) 139 (12, [.ref 10, .int x1], [.int (f_X9_within x1 0 (f_X2_all ro))], mkH E ro) Q = _
  exact r_zret rfl rfl (z_X9_within)
theorem z_X9_isSet {ro : Nat → Nat → Int32} {x1 : Int32} : narrow .boolean (.int (f_X9_isSet ro x1)) = .int (f_X9_isSet ro x1) := by
  unfold f_X9_isSet
  (repeat' split) <;> first | rfl | exact z_X9_within

def f_X9_isKindAndM (x0 : Int32) : Int32 := f_X9_within x0 0 69
theorem x_X9_isKindAndM {d : Nat} {E : pEv} {ro : Nat → Nat → Int32} {Q : Option Value → pH → Prop} (s_E : oE E) {x0 : Int32} : wX (d + 2) 140 [.int x0] (mkH E ro) Q = Q (some (.int (f_X9_isKindAndM x0))) (mkH E ro) := by
  show _ = Q (some (.int (f_X9_within x0 0 69))) (mkH E ro)
  refine (wX_in rfl (by decide)).trans ?_
  show wG (d + 1) 140 (0, [.int x0], [], mkH E ro) Q = _
  refine (r_iload_n rfl rfl rfl).trans ?_
  refine (r_iconst (v := 0) rfl rfl rfl).trans ?_
  refine (r_bipush (v := 69) rfl rfl rfl).trans ?_
  refine (r_ins (m := 146) rfl rfl rfl rfl rfl rfl).trans ?_
  refine (x_X9_within (d := d) s_E).trans ?_
  show wG (d + 1) 140 (7, [.int x0], [.int (f_X9_within x0 0 69)], mkH E ro) Q = _
  exact r_zret rfl rfl (z_X9_within)
theorem z_X9_isKindAndM {x0 : Int32} : narrow .boolean (.int (f_X9_isKindAndM x0)) = .int (f_X9_isKindAndM x0) := by
  unfold f_X9_isKindAndM
  (repeat' split) <;> first | rfl | exact z_X9_within

def f_X9_isUse (x0 : Int32) : Int32 := f_X9_within x0 0 1
theorem x_X9_isUse {d : Nat} {E : pEv} {ro : Nat → Nat → Int32} {Q : Option Value → pH → Prop} (s_E : oE E) {x0 : Int32} : wX (d + 2) 141 [.int x0] (mkH E ro) Q = Q (some (.int (f_X9_isUse x0))) (mkH E ro) := by
  show _ = Q (some (.int (f_X9_within x0 0 1))) (mkH E ro)
  refine (wX_in rfl (by decide)).trans ?_
  show wG (d + 1) 141 (0, [.int x0], [], mkH E ro) Q = _
  refine (r_iload_n rfl rfl rfl).trans ?_
  refine (r_iconst (v := 0) rfl rfl rfl).trans ?_
  refine (r_iconst (v := 1) rfl rfl rfl).trans ?_
  refine (r_ins (m := 146) rfl rfl rfl rfl rfl rfl).trans ?_
  refine (x_X9_within (d := d) s_E).trans ?_
  show wG (d + 1) 141 (6, [.int x0], [.int (f_X9_within x0 0 1)], mkH E ro) Q = _
  exact r_zret rfl rfl (z_X9_within)
theorem z_X9_isUse {x0 : Int32} : narrow .boolean (.int (f_X9_isUse x0)) = .int (f_X9_isUse x0) := by
  unfold f_X9_isUse
  (repeat' split) <;> first | rfl | exact z_X9_within

def f_X9_isSheet (x0 : Int32) : Int32 := f_X9_within x0 0 3
theorem x_X9_isSheet {d : Nat} {E : pEv} {ro : Nat → Nat → Int32} {Q : Option Value → pH → Prop} (s_E : oE E) {x0 : Int32} : wX (d + 2) 142 [.int x0] (mkH E ro) Q = Q (some (.int (f_X9_isSheet x0))) (mkH E ro) := by
  show _ = Q (some (.int (f_X9_within x0 0 3))) (mkH E ro)
  refine (wX_in rfl (by decide)).trans ?_
  show wG (d + 1) 142 (0, [.int x0], [], mkH E ro) Q = _
  refine (r_iload_n rfl rfl rfl).trans ?_
  refine (r_iconst (v := 0) rfl rfl rfl).trans ?_
  refine (r_iconst (v := 3) rfl rfl rfl).trans ?_
  refine (r_ins (m := 146) rfl rfl rfl rfl rfl rfl).trans ?_
  refine (x_X9_within (d := d) s_E).trans ?_
  show wG (d + 1) 142 (6, [.int x0], [.int (f_X9_within x0 0 3)], mkH E ro) Q = _
  exact r_zret rfl rfl (z_X9_within)
theorem z_X9_isSheet {x0 : Int32} : narrow .boolean (.int (f_X9_isSheet x0)) = .int (f_X9_isSheet x0) := by
  unfold f_X9_isSheet
  (repeat' split) <;> first | rfl | exact z_X9_within

def f_X9_sheetAt (x1 : Int32) : Nat := (if (f_X9_within x1 0 (4 - 1)) = 0 then (88 + 3 * 0) else (88 + 3 * x1.toNatClampNeg))
theorem x_X9_sheetAt {d : Nat} {E : pEv} {ro : Nat → Nat → Int32} {Q : Option Value → pH → Prop} (s_E : oE E) {x1 : Int32} : wX (d + 2) 143 [.ref 10, .int x1] (mkH E ro) Q = Q (some (.ref (f_X9_sheetAt x1))) (mkH E ro) := by
  show _ = Q (some (.ref (if (f_X9_within x1 0 (4 - 1)) = 0 then (88 + 3 * 0) else (88 + 3 * x1.toNatClampNeg)))) (mkH E ro)
  refine (wX_in rfl (by decide)).trans ?_
  show wG (d + 1) 143 (0, [.ref 10, .int x1], [], mkH E ro) Q = _
  refine (r_aload_n rfl rfl rfl).trans ?_
  refine (r_getR (ci := 9) (sl := 6) s_E rfl rfl rfl rfl (by decide) rfl rfl).trans ?_
  refine (r_iload_n rfl rfl rfl).trans ?_
  refine (r_iconst (v := 0) rfl rfl rfl).trans ?_
  refine (r_aload_n rfl rfl rfl).trans ?_
  refine (r_getR (ci := 9) (sl := 6) s_E rfl rfl rfl rfl (by decide) rfl rfl).trans ?_
  refine (r_alen (v := 4) rfl rfl rfl (by decide) (by decide) rfl).trans ?_
  refine (r_iconst (v := 1) rfl rfl rfl).trans ?_
  refine (r_isub rfl rfl).trans ?_
  refine (r_ins (m := 146) rfl rfl rfl rfl rfl rfl).trans ?_
  refine (x_X9_within (d := d) s_E).trans ?_
  show wG (d + 1) 143 (16, [.ref 10, .int x1], [.int (f_X9_within x1 0 (4 - 1)), .ref 87], mkH E ro) Q = _
  refine (r_if_eq rfl rfl rfl).trans ?_
  refine Eq.trans (ite_congr rfl (fun h_0 => ?_) (fun h_0 => ?_)) q_r
  · refine (r_iconst (v := 0) rfl rfl rfl).trans ?_
    refine (r_aald s_E rfl rfl rfl (Or.inr rfl) (by decide) (show ¬ (0 : Int32) < 0 ∧ (0 : Int32).toNatClampNeg < 4 by decide) (by decide) (by decide) (sh_at (show ¬ (0 : Int32) < 0 ∧ (0 : Int32).toNatClampNeg < 4 by decide).2).1).trans ?_
    exact r_aret rfl rfl
  · refine (r_iload_n rfl rfl rfl).trans ?_
    refine (r_goto rfl rfl).trans ?_
    refine (r_aald s_E rfl rfl rfl (Or.inr rfl) (by decide) (ixW (n := 4) (by decide) h_0) (by decide) (by decide) (sh_at (ixW (n := 4) (by decide) h_0).2).1).trans ?_
    exact r_aret rfl rfl
theorem oSh_at {x : Int32} : oSheet (f_X9_sheetAt x) := by
  unfold f_X9_sheetAt f_X9_within
  by_cases h1 : x < 0
  · rw [if_pos h1, if_pos rfl]
    exact (sh_at (j := 0) (by decide)).2
  · rw [if_neg h1]
    rw [show (4 : Int32) - 1 = 3 from by decide]
    by_cases h2 : 3 < x
    · rw [if_pos h2, if_pos rfl]
      exact (sh_at (j := 0) (by decide)).2
    · rw [if_neg h2, if_neg (by decide)]
      obtain ⟨j, hj, rfl⟩ := nI_of2 (M := 3) (n := 3) (by decide) h1 (Int32.not_lt.mp h2)
      rw [nI_clamp (by omega)]
      exact (sh_at (by omega)).2

def f_X9_errorOfSheet (ro : Nat → Nat → Int32) (x1 : Int32) : Int32 := (if (f_X9_isSheet x1) = 0 then (-1000000001) else (if (ro (f_X9_sheetAt x1) 1) = 0 then (-1000000002) else 0))
theorem x_X9_errorOfSheet {d : Nat} {E : pEv} {ro : Nat → Nat → Int32} {Q : Option Value → pH → Prop} (s_E : oE E) {x1 : Int32} : wX (d + 3) 144 [.ref 10, .int x1] (mkH E ro) Q = Q (some (.int (f_X9_errorOfSheet ro x1))) (mkH E ro) := by
  show _ = Q (some (.int (if (f_X9_isSheet x1) = 0 then (-1000000001) else (if (ro (f_X9_sheetAt x1) 1) = 0 then (-1000000002) else 0)))) (mkH E ro)
  refine (wX_in rfl (by decide)).trans ?_
  show wG (d + 2) 144 (0, [.ref 10, .int x1], [], mkH E ro) Q = _
  refine (r_iload_n rfl rfl rfl).trans ?_
  refine (r_ins (m := 142) rfl rfl rfl rfl rfl rfl).trans ?_
  refine (x_X9_isSheet (d := d) s_E).trans ?_
  show wG (d + 2) 144 (4, [.ref 10, .int x1], [.int (f_X9_isSheet x1)], mkH E ro) Q = _
  refine (r_if_ne rfl rfl rfl).trans ?_
  refine Eq.trans (ite_congr rfl (fun h_0 => ?_) (fun h_0 => ?_)) q_i
  · refine (r_ldc (v := (-1000000001)) rfl rfl rfl).trans ?_
    exact r_iret rfl rfl
  · refine (r_aload_n rfl rfl rfl).trans ?_
    refine (r_iload_n rfl rfl rfl).trans ?_
    refine (r_inv (m := 143) (c := 9) rfl rfl rfl rfl rfl rfl rfl rfl).trans ?_
    refine (x_X9_sheetAt (d := d) s_E).trans ?_
    show wG (d + 2) 144 (15, [.ref 10, .int x1], [.ref (f_X9_sheetAt x1)], mkH E ro) Q = _
    refine (r_getI (ci := 6) (sl := 1) rfl rfl rfl oSh_at.2.1 oSh_at.1).trans ?_
    refine (r_if_ne rfl rfl rfl).trans ?_
    refine Eq.trans (ite_congr rfl (fun h_1 => ?_) (fun h_1 => ?_)) q_i
    · refine (r_ldc (v := (-1000000002)) rfl rfl rfl).trans ?_
      refine (r_goto rfl rfl).trans ?_
      exact r_iret rfl rfl
    · refine (r_iconst (v := 0) rfl rfl rfl).trans ?_
      exact r_iret rfl rfl

def f_X9_errorOfEvenings (ro : Nat → Nat → Int32) (x1 : Int32) : Int32 := (if (f_X9_within x1 1 200) = 0 then (-1000000001) else (if 9999 < ((ro 11 10) + x1) then (-1000000003) else 0))
theorem x_X9_errorOfEvenings {d : Nat} {E : pEv} {ro : Nat → Nat → Int32} {Q : Option Value → pH → Prop} (s_E : oE E) {x1 : Int32} : wX (d + 2) 145 [.ref 10, .int x1] (mkH E ro) Q = Q (some (.int (f_X9_errorOfEvenings ro x1))) (mkH E ro) := by
  show _ = Q (some (.int (if (f_X9_within x1 1 200) = 0 then (-1000000001) else (if 9999 < ((ro 11 10) + x1) then (-1000000003) else 0)))) (mkH E ro)
  refine (wX_in rfl (by decide)).trans ?_
  show wG (d + 1) 145 (0, [.ref 10, .int x1], [], mkH E ro) Q = _
  refine (r_iload_n rfl rfl rfl).trans ?_
  refine (r_iconst (v := 1) rfl rfl rfl).trans ?_
  refine (r_sipush (v := 200) rfl rfl rfl).trans ?_
  refine (r_ins (m := 146) rfl rfl rfl rfl rfl rfl).trans ?_
  refine (x_X9_within (d := d) s_E).trans ?_
  show wG (d + 1) 145 (8, [.ref 10, .int x1], [.int (f_X9_within x1 1 200)], mkH E ro) Q = _
  refine (r_if_ne rfl rfl rfl).trans ?_
  refine Eq.trans (ite_congr rfl (fun h_0 => ?_) (fun h_0 => ?_)) q_i
  · refine (r_ldc (v := (-1000000001)) rfl rfl rfl).trans ?_
    exact r_iret rfl rfl
  · refine (r_aload_n rfl rfl rfl).trans ?_
    refine (r_getR (ci := 9) (sl := 0) s_E rfl rfl rfl rfl (by decide) rfl rfl).trans ?_
    refine (r_getI (ci := 2) (sl := 10) rfl rfl rfl rfl (by decide)).trans ?_
    refine (r_iload_n rfl rfl rfl).trans ?_
    refine (r_iadd rfl rfl).trans ?_
    refine (r_sipush (v := 9999) rfl rfl rfl).trans ?_
    refine (r_icmp_le rfl rfl rfl).trans ?_
    refine Eq.trans (ite_congr rfl (fun h_1 => ?_) (fun h_1 => ?_)) q_i
    · refine (r_ldc_w (v := (-1000000003)) rfl rfl rfl).trans ?_
      refine (r_goto rfl rfl).trans ?_
      exact r_iret rfl rfl
    · refine (r_iconst (v := 0) rfl rfl rfl).trans ?_
      exact r_iret rfl rfl

def f_X9_leastOf (x0 : Int32) : Int32 := (if x0 = 0 then (-1) else f_J6_bitCount_0f7a4 ((x0 &&& (-x0)) - 1))
theorem x_X9_leastOf {d : Nat} {E : pEv} {ro : Nat → Nat → Int32} {Q : Option Value → pH → Prop} (s_E : oE E) {x0 : Int32} : wX (d + 2) 149 [.int x0] (mkH E ro) Q = Q (some (.int (f_X9_leastOf x0))) (mkH E ro) := by
  show _ = Q (some (.int (if x0 = 0 then (-1) else f_J6_bitCount_0f7a4 ((x0 &&& (-x0)) - 1)))) (mkH E ro)
  refine (wX_in rfl (by decide)).trans ?_
  show wG (d + 1) 149 (0, [.int x0], [], mkH E ro) Q = _
  refine (r_iload_n rfl rfl rfl).trans ?_
  refine (r_if_ne rfl rfl rfl).trans ?_
  refine Eq.trans (ite_congr rfl (fun h_0 => ?_) (fun h_0 => ?_)) q_i
  · refine (r_iconst (v := (-1)) rfl rfl rfl).trans ?_
    refine (r_goto rfl rfl).trans ?_
    exact r_iret rfl rfl
  · refine (r_iload_n rfl rfl rfl).trans ?_
    refine (r_iload_n rfl rfl rfl).trans ?_
    refine (r_ineg rfl rfl).trans ?_
    refine (r_iand rfl rfl).trans ?_
    refine (r_iconst (v := 1) rfl rfl rfl).trans ?_
    refine (r_isub rfl rfl).trans ?_
    refine (r_ins (m := 255) rfl rfl rfl rfl rfl rfl).trans ?_
    refine (x_J6_bitCount_0f7a4 (d := d) s_E).trans ?_
    show wG (d + 1) 149 (17, [.int x0], [.int (f_J6_bitCount_0f7a4 ((x0 &&& (-x0)) - 1))], mkH E ro) Q = _
    exact r_iret rfl rfl

def g_X4_copyFrom (ro : Nat → Nat → Int32) (r0 : Nat) (c_h0 : Nat) (r1 : Nat) (c_h1 : Nat) : Nat → Nat → Int32 := (g_X4_overwrite (uI ro r0 1 (if (Int32.ofNat c_h0) < (ro r1 1) then (Int32.ofNat c_h0) else (ro r1 1))) r0 c_h0 0 r1 c_h1 0 ((uI ro r0 1 (if (Int32.ofNat c_h0) < (ro r1 1) then (Int32.ofNat c_h0) else (ro r1 1))) r0 1))
theorem x_X4_copyFrom {d : Nat} {E : pEv} {ro : Nat → Nat → Int32} {Q : Option Value → pH → Prop} (s_E : oE E) {r0 c_h0 : Nat} (h0 : oRow r0 c_h0) {r1 c_h1 : Nat} (h1 : oRow r1 c_h1) (b0 : ((¬ (f_X4_holds (uI ro r0 1 (if (Int32.ofNat c_h0) < (ro r1 1) then (Int32.ofNat c_h0) else (ro r1 1))) r1 c_h1 (0 : Int32) ((uI ro r0 1 (if (Int32.ofNat c_h0) < (ro r1 1) then (Int32.ofNat c_h0) else (ro r1 1))) r0 1)) = 0) → (¬ (f_X4_holds (uI ro r0 1 (if (Int32.ofNat c_h0) < (ro r1 1) then (Int32.ofNat c_h0) else (ro r1 1))) r0 c_h0 (0 : Int32) ((uI ro r0 1 (if (Int32.ofNat c_h0) < (ro r1 1) then (Int32.ofNat c_h0) else (ro r1 1))) r0 1)) = 0) → (¬ (0 : Int32) < 0))) (b1 : ((¬ (f_X4_holds (uI ro r0 1 (if (Int32.ofNat c_h0) < (ro r1 1) then (Int32.ofNat c_h0) else (ro r1 1))) r1 c_h1 (0 : Int32) ((uI ro r0 1 (if (Int32.ofNat c_h0) < (ro r1 1) then (Int32.ofNat c_h0) else (ro r1 1))) r0 1)) = 0) → (¬ (f_X4_holds (uI ro r0 1 (if (Int32.ofNat c_h0) < (ro r1 1) then (Int32.ofNat c_h0) else (ro r1 1))) r0 c_h0 (0 : Int32) ((uI ro r0 1 (if (Int32.ofNat c_h0) < (ro r1 1) then (Int32.ofNat c_h0) else (ro r1 1))) r0 1)) = 0) → (¬ ((uI ro r0 1 (if (Int32.ofNat c_h0) < (ro r1 1) then (Int32.ofNat c_h0) else (ro r1 1))) r0 1) < 0))) (b2 : ((¬ (f_X4_holds (uI ro r0 1 (if (Int32.ofNat c_h0) < (ro r1 1) then (Int32.ofNat c_h0) else (ro r1 1))) r1 c_h1 (0 : Int32) ((uI ro r0 1 (if (Int32.ofNat c_h0) < (ro r1 1) then (Int32.ofNat c_h0) else (ro r1 1))) r0 1)) = 0) → (¬ (f_X4_holds (uI ro r0 1 (if (Int32.ofNat c_h0) < (ro r1 1) then (Int32.ofNat c_h0) else (ro r1 1))) r0 c_h0 (0 : Int32) ((uI ro r0 1 (if (Int32.ofNat c_h0) < (ro r1 1) then (Int32.ofNat c_h0) else (ro r1 1))) r0 1)) = 0) → ((0 : Int32).toNatClampNeg + ((uI ro r0 1 (if (Int32.ofNat c_h0) < (ro r1 1) then (Int32.ofNat c_h0) else (ro r1 1))) r0 1).toNatClampNeg ≤ c_h1))) (b3 : ((¬ (f_X4_holds (uI ro r0 1 (if (Int32.ofNat c_h0) < (ro r1 1) then (Int32.ofNat c_h0) else (ro r1 1))) r1 c_h1 (0 : Int32) ((uI ro r0 1 (if (Int32.ofNat c_h0) < (ro r1 1) then (Int32.ofNat c_h0) else (ro r1 1))) r0 1)) = 0) → (¬ (f_X4_holds (uI ro r0 1 (if (Int32.ofNat c_h0) < (ro r1 1) then (Int32.ofNat c_h0) else (ro r1 1))) r0 c_h0 (0 : Int32) ((uI ro r0 1 (if (Int32.ofNat c_h0) < (ro r1 1) then (Int32.ofNat c_h0) else (ro r1 1))) r0 1)) = 0) → ((0 : Int32).toNatClampNeg + ((uI ro r0 1 (if (Int32.ofNat c_h0) < (ro r1 1) then (Int32.ofNat c_h0) else (ro r1 1))) r0 1).toNatClampNeg ≤ c_h0))) : wX (d + 4) 69 [.ref r0, .ref r1] (mkH E ro) Q = Q none (mkH E (g_X4_copyFrom ro r0 c_h0 r1 c_h1)) := by
  show _ = Q none (mkH E (g_X4_overwrite (uI ro r0 1 (if (Int32.ofNat c_h0) < (ro r1 1) then (Int32.ofNat c_h0) else (ro r1 1))) r0 c_h0 0 r1 c_h1 0 ((uI ro r0 1 (if (Int32.ofNat c_h0) < (ro r1 1) then (Int32.ofNat c_h0) else (ro r1 1))) r0 1)))
  refine (wX_in rfl (by decide)).trans ?_
  show wG (d + 3) 69 (0, [.ref r0, .ref r1], [], mkH E ro) Q = _
  refine (r_aload_n rfl rfl rfl).trans ?_
  refine (r_aload_n rfl rfl rfl).trans ?_
  refine (r_getI (ci := 4) (sl := 1) rfl rfl rfl h1.2.1 h1.1).trans ?_
  refine (r_aload_n rfl rfl rfl).trans ?_
  refine (r_getR (ci := 4) (sl := 0) s_E rfl rfl rfl h0.2.1 h0.1 h0.2.2.1 (n81 h0.2.1 (by decide))).trans ?_
  refine (r_alen (v := Int32.ofNat c_h0) rfl rfl h0.2.2.2 (ne9 (Nat.le_succ_of_le h0.1)) (by decide) rfl).trans ?_
  refine (r_min rfl rfl rfl).trans ?_
  refine (r_putI (ci := 4) (sl := 1) rfl rfl rfl h0.2.1 h0.1).trans ?_
  refine (r_aload_n rfl rfl rfl).trans ?_
  refine (r_iconst (v := 0) rfl rfl rfl).trans ?_
  refine (r_aload_n rfl rfl rfl).trans ?_
  refine (r_iconst (v := 0) rfl rfl rfl).trans ?_
  refine (r_aload_n rfl rfl rfl).trans ?_
  refine (r_getI (ci := 4) (sl := 1) rfl rfl rfl h0.2.1 h0.1).trans ?_
  refine (r_inv (m := 71) (c := 4) rfl rfl rfl rfl rfl rfl h0.2.1 rfl).trans ?_
  refine (x_X4_overwrite (d := d) s_E h0 h1 b0 b0 b1 b2 b3).trans ?_
  show wG (d + 3) 69 (27, [.ref r0, .ref r1], [], mkH E (g_X4_overwrite (uI ro r0 1 (if (Int32.ofNat c_h0) < (ro r1 1) then (Int32.ofNat c_h0) else (ro r1 1))) r0 c_h0 0 r1 c_h1 0 ((uI ro r0 1 (if (Int32.ofNat c_h0) < (ro r1 1) then (Int32.ofNat c_h0) else (ro r1 1))) r0 1))) Q = _
  exact r_vret rfl rfl

def f_X9_prop (ro : Nat → Nat → Int32) (x1 : Int32) (x2 : Int32) (x3 : Int32) (x4 : Int32) : Int32 := (if (f_X9_stands ro x1) = 0 then f_X9_wrong (-1000000001) else (if (f_X9_within x2 0 4) = 0 then f_X9_wrong (-1000000001) else (if x2 = 4 then 1 else (if (f_X9_within x3 0 5) = 0 then f_X9_wrong (-1000000001) else (if (f_X9_within x4 0 5) = 0 then f_X9_wrong (-1000000001) else 1)))))
def g_X9_prop (ro : Nat → Nat → Int32) (x1 : Int32) (x2 : Int32) (x3 : Int32) (x4 : Int32) : Nat → Nat → Int32 := (if (f_X9_stands ro x1) = 0 then (g_X9_wrong ro (-1000000001)) else (if (f_X9_within x2 0 4) = 0 then (g_X9_wrong ro (-1000000001)) else (if x2 = 4 then (g_X5_carry ro (f_X2_at 11 x1) x2 x3 x4) else (if (f_X9_within x3 0 5) = 0 then (g_X9_wrong ro (-1000000001)) else (if (f_X9_within x4 0 5) = 0 then (g_X9_wrong ro (-1000000001)) else (g_X5_carry ro (f_X2_at 11 x1) x2 x3 x4))))))
theorem x_X9_prop {d : Nat} {E : pEv} {ro : Nat → Nat → Int32} {Q : Option Value → pH → Prop} (s_E : oE E) {x1 : Int32} {x2 : Int32} {x3 : Int32} {x4 : Int32} (b0 : ((f_X9_stands ro x1) = 0) → ((¬ (f_X9_within ((-1000000000) - ((-1000000001) : Int32)) 1 5) = 0) → (¬ (((-1000000000) - ((-1000000001) : Int32)) - 1) < 0 ∧ (((-1000000000) - ((-1000000001) : Int32)) - 1).toNatClampNeg < 5))) (b1 : (¬ (f_X9_stands ro x1) = 0) → ((f_X9_within x2 0 4) = 0) → ((¬ (f_X9_within ((-1000000000) - ((-1000000001) : Int32)) 1 5) = 0) → (¬ (((-1000000000) - ((-1000000001) : Int32)) - 1) < 0 ∧ (((-1000000000) - ((-1000000001) : Int32)) - 1).toNatClampNeg < 5))) (b2 : (¬ (f_X9_stands ro x1) = 0) → (¬ (f_X9_within x2 0 4) = 0) → (¬ x2 = 4) → ((f_X9_within x3 0 5) = 0) → ((¬ (f_X9_within ((-1000000000) - ((-1000000001) : Int32)) 1 5) = 0) → (¬ (((-1000000000) - ((-1000000001) : Int32)) - 1) < 0 ∧ (((-1000000000) - ((-1000000001) : Int32)) - 1).toNatClampNeg < 5))) (b3 : (¬ (f_X9_stands ro x1) = 0) → (¬ (f_X9_within x2 0 4) = 0) → (¬ x2 = 4) → (¬ (f_X9_within x3 0 5) = 0) → ((f_X9_within x4 0 5) = 0) → ((¬ (f_X9_within ((-1000000000) - ((-1000000001) : Int32)) 1 5) = 0) → (¬ (((-1000000000) - ((-1000000001) : Int32)) - 1) < 0 ∧ (((-1000000000) - ((-1000000001) : Int32)) - 1).toNatClampNeg < 5))) : wX (d + 3) 97 [.ref 10, .int x1, .int x2, .int x3, .int x4] (mkH E ro) Q = Q (some (.int (f_X9_prop ro x1 x2 x3 x4))) (mkH E (g_X9_prop ro x1 x2 x3 x4)) := by
  show _ = Q (some (.int (if (f_X9_stands ro x1) = 0 then f_X9_wrong (-1000000001) else (if (f_X9_within x2 0 4) = 0 then f_X9_wrong (-1000000001) else (if x2 = 4 then 1 else (if (f_X9_within x3 0 5) = 0 then f_X9_wrong (-1000000001) else (if (f_X9_within x4 0 5) = 0 then f_X9_wrong (-1000000001) else 1))))))) (mkH E (if (f_X9_stands ro x1) = 0 then (g_X9_wrong ro (-1000000001)) else (if (f_X9_within x2 0 4) = 0 then (g_X9_wrong ro (-1000000001)) else (if x2 = 4 then (g_X5_carry ro (f_X2_at 11 x1) x2 x3 x4) else (if (f_X9_within x3 0 5) = 0 then (g_X9_wrong ro (-1000000001)) else (if (f_X9_within x4 0 5) = 0 then (g_X9_wrong ro (-1000000001)) else (g_X5_carry ro (f_X2_at 11 x1) x2 x3 x4)))))))
  refine (wX_in rfl (by decide)).trans ?_
  show wG (d + 2) 97 (0, [.ref 10, .int x1, .int x2, .int x3, .int x4], [], mkH E ro) Q = _
  refine (r_aload_n rfl rfl rfl).trans ?_
  refine (r_iload_n rfl rfl rfl).trans ?_
  refine (r_inv (m := 137) (c := 9) rfl rfl rfl rfl rfl rfl rfl rfl).trans ?_
  refine (x_X9_stands (d := d) s_E).trans ?_
  show wG (d + 2) 97 (5, [.ref 10, .int x1, .int x2, .int x3, .int x4], [.int (f_X9_stands ro x1)], mkH E ro) Q = _
  refine (r_if_eq rfl rfl rfl).trans ?_
  refine Eq.trans (ite_congr rfl (fun h_0 => ?_) (fun h_0 => ?_)) q_is
  · refine (r_aload_n rfl rfl rfl).trans ?_
    refine (r_ldc (v := (-1000000001)) rfl rfl rfl).trans ?_
    refine (r_inv (m := 136) (c := 9) rfl rfl rfl rfl rfl rfl rfl rfl).trans ?_
    refine (x_X9_wrong (d := d) s_E (b0 h_0)).trans ?_
    show wG (d + 2) 97 (23, [.ref 10, .int x1, .int x2, .int x3, .int x4], [.int (f_X9_wrong (-1000000001))], mkH E (g_X9_wrong ro (-1000000001))) Q = _
    exact r_iret rfl rfl
  · refine (r_iload_n rfl rfl rfl).trans ?_
    refine (r_iconst (v := 0) rfl rfl rfl).trans ?_
    refine (r_iconst (v := 4) rfl rfl rfl).trans ?_
    refine (r_ins (m := 146) rfl rfl rfl rfl rfl rfl).trans ?_
    refine (x_X9_within (d := d + 1) s_E).trans ?_
    show wG (d + 2) 97 (14, [.ref 10, .int x1, .int x2, .int x3, .int x4], [.int (f_X9_within x2 0 4)], mkH E ro) Q = _
    refine (r_if_ne rfl rfl rfl).trans ?_
    refine Eq.trans (ite_congr rfl (fun h_1 => ?_) (fun h_1 => ?_)) q_is
    · refine (r_aload_n rfl rfl rfl).trans ?_
      refine (r_ldc (v := (-1000000001)) rfl rfl rfl).trans ?_
      refine (r_inv (m := 136) (c := 9) rfl rfl rfl rfl rfl rfl rfl rfl).trans ?_
      refine (x_X9_wrong (d := d) s_E (b1 h_0 h_1)).trans ?_
      show wG (d + 2) 97 (23, [.ref 10, .int x1, .int x2, .int x3, .int x4], [.int (f_X9_wrong (-1000000001))], mkH E (g_X9_wrong ro (-1000000001))) Q = _
      exact r_iret rfl rfl
    · refine (r_iload_n rfl rfl rfl).trans ?_
      refine (r_iconst (v := 4) rfl rfl rfl).trans ?_
      refine (r_icmp_eq rfl rfl rfl).trans ?_
      refine Eq.trans (ite_congr rfl (fun h_2 => ?_) (fun h_2 => ?_)) q_is
      · refine (r_aload_n rfl rfl rfl).trans ?_
        refine (r_getR (ci := 9) (sl := 0) s_E rfl rfl rfl rfl (by decide) rfl rfl).trans ?_
        refine (r_iload_n rfl rfl rfl).trans ?_
        refine (r_inv (m := 20) (c := 2) rfl rfl rfl rfl rfl rfl rfl rfl).trans ?_
        refine (x_X2_at (d := d + 1) s_E oP11).trans ?_
        show wG (d + 2) 97 (63, [.ref 10, .int x1, .int x2, .int x3, .int x4], [.ref (f_X2_at 11 x1)], mkH E ro) Q = _
        refine (r_iload_n rfl rfl rfl).trans ?_
        refine (r_iload_n rfl rfl rfl).trans ?_
        refine (r_iload rfl rfl rfl).trans ?_
        refine (r_inv (m := 74) (c := 5) rfl rfl rfl rfl rfl rfl (oSc_at oP11).2.1 rfl).trans ?_
        refine (x_X5_carry (d := d + 1) s_E (oSc_at oP11)).trans ?_
        show wG (d + 2) 97 (70, [.ref 10, .int x1, .int x2, .int x3, .int x4], [], mkH E (g_X5_carry ro (f_X2_at 11 x1) x2 x3 x4)) Q = _
        refine (r_iconst (v := 1) rfl rfl rfl).trans ?_
        exact r_iret rfl rfl
      · refine (r_iload_n rfl rfl rfl).trans ?_
        refine (r_iconst (v := 0) rfl rfl rfl).trans ?_
        refine (r_iconst (v := 5) rfl rfl rfl).trans ?_
        refine (r_ins (m := 146) rfl rfl rfl rfl rfl rfl).trans ?_
        refine (x_X9_within (d := d + 1) s_E).trans ?_
        show wG (d + 2) 97 (35, [.ref 10, .int x1, .int x2, .int x3, .int x4], [.int (f_X9_within x3 0 5)], mkH E ro) Q = _
        refine (r_if_eq rfl rfl rfl).trans ?_
        refine Eq.trans (ite_congr rfl (fun h_3 => ?_) (fun h_3 => ?_)) q_is
        · refine (r_aload_n rfl rfl rfl).trans ?_
          refine (r_ldc (v := (-1000000001)) rfl rfl rfl).trans ?_
          refine (r_inv (m := 136) (c := 9) rfl rfl rfl rfl rfl rfl rfl rfl).trans ?_
          refine (x_X9_wrong (d := d) s_E (b2 h_0 h_1 h_2 h_3)).trans ?_
          show wG (d + 2) 97 (54, [.ref 10, .int x1, .int x2, .int x3, .int x4], [.int (f_X9_wrong (-1000000001))], mkH E (g_X9_wrong ro (-1000000001))) Q = _
          exact r_iret rfl rfl
        · refine (r_iload rfl rfl rfl).trans ?_
          refine (r_iconst (v := 0) rfl rfl rfl).trans ?_
          refine (r_iconst (v := 5) rfl rfl rfl).trans ?_
          refine (r_ins (m := 146) rfl rfl rfl rfl rfl rfl).trans ?_
          refine (x_X9_within (d := d + 1) s_E).trans ?_
          show wG (d + 2) 97 (45, [.ref 10, .int x1, .int x2, .int x3, .int x4], [.int (f_X9_within x4 0 5)], mkH E ro) Q = _
          refine (r_if_ne rfl rfl rfl).trans ?_
          refine Eq.trans (ite_congr rfl (fun h_4 => ?_) (fun h_4 => ?_)) q_is
          · refine (r_aload_n rfl rfl rfl).trans ?_
            refine (r_ldc (v := (-1000000001)) rfl rfl rfl).trans ?_
            refine (r_inv (m := 136) (c := 9) rfl rfl rfl rfl rfl rfl rfl rfl).trans ?_
            refine (x_X9_wrong (d := d) s_E (b3 h_0 h_1 h_2 h_3 h_4)).trans ?_
            show wG (d + 2) 97 (54, [.ref 10, .int x1, .int x2, .int x3, .int x4], [.int (f_X9_wrong (-1000000001))], mkH E (g_X9_wrong ro (-1000000001))) Q = _
            exact r_iret rfl rfl
          · refine (r_aload_n rfl rfl rfl).trans ?_
            refine (r_getR (ci := 9) (sl := 0) s_E rfl rfl rfl rfl (by decide) rfl rfl).trans ?_
            refine (r_iload_n rfl rfl rfl).trans ?_
            refine (r_inv (m := 20) (c := 2) rfl rfl rfl rfl rfl rfl rfl rfl).trans ?_
            refine (x_X2_at (d := d + 1) s_E oP11).trans ?_
            show wG (d + 2) 97 (63, [.ref 10, .int x1, .int x2, .int x3, .int x4], [.ref (f_X2_at 11 x1)], mkH E ro) Q = _
            refine (r_iload_n rfl rfl rfl).trans ?_
            refine (r_iload_n rfl rfl rfl).trans ?_
            refine (r_iload rfl rfl rfl).trans ?_
            refine (r_inv (m := 74) (c := 5) rfl rfl rfl rfl rfl rfl (oSc_at oP11).2.1 rfl).trans ?_
            refine (x_X5_carry (d := d + 1) s_E (oSc_at oP11)).trans ?_
            show wG (d + 2) 97 (70, [.ref 10, .int x1, .int x2, .int x3, .int x4], [], mkH E (g_X5_carry ro (f_X2_at 11 x1) x2 x3 x4)) Q = _
            refine (r_iconst (v := 1) rfl rfl rfl).trans ?_
            exact r_iret rfl rfl

def f_X9_become (ro : Nat → Nat → Int32) (x1 : Int32) (x2 : Int32) : Int32 := (if (f_X9_stands ro x1) = 0 then f_X9_wrong (-1000000001) else (if (f_X9_isKindAndM x2) = 0 then f_X9_wrong (-1000000001) else ro (f_X2_at 11 x1) 1))
def g_X9_become (ro : Nat → Nat → Int32) (x1 : Int32) (x2 : Int32) : Nat → Nat → Int32 := (if (f_X9_stands ro x1) = 0 then (g_X9_wrong ro (-1000000001)) else (if (f_X9_isKindAndM x2) = 0 then (g_X9_wrong ro (-1000000001)) else (uI (uI ro (f_X2_at 11 x1) 1 (x2 / 10)) (f_X2_at 11 x1) 2 (x2 - x2 / 10 * 10))))
theorem x_X9_become {d : Nat} {E : pEv} {ro : Nat → Nat → Int32} {Q : Option Value → pH → Prop} (s_E : oE E) {x1 : Int32} {x2 : Int32} (b0 : ((f_X9_stands ro x1) = 0) → ((¬ (f_X9_within ((-1000000000) - ((-1000000001) : Int32)) 1 5) = 0) → (¬ (((-1000000000) - ((-1000000001) : Int32)) - 1) < 0 ∧ (((-1000000000) - ((-1000000001) : Int32)) - 1).toNatClampNeg < 5))) (b1 : (¬ (f_X9_stands ro x1) = 0) → ((f_X9_isKindAndM x2) = 0) → ((¬ (f_X9_within ((-1000000000) - ((-1000000001) : Int32)) 1 5) = 0) → (¬ (((-1000000000) - ((-1000000001) : Int32)) - 1) < 0 ∧ (((-1000000000) - ((-1000000001) : Int32)) - 1).toNatClampNeg < 5))) : wX (d + 3) 99 [.ref 10, .int x1, .int x2] (mkH E ro) Q = Q (some (.int (f_X9_become ro x1 x2))) (mkH E (g_X9_become ro x1 x2)) := by
  show _ = Q (some (.int (if (f_X9_stands ro x1) = 0 then f_X9_wrong (-1000000001) else (if (f_X9_isKindAndM x2) = 0 then f_X9_wrong (-1000000001) else ro (f_X2_at 11 x1) 1)))) (mkH E (if (f_X9_stands ro x1) = 0 then (g_X9_wrong ro (-1000000001)) else (if (f_X9_isKindAndM x2) = 0 then (g_X9_wrong ro (-1000000001)) else (uI (uI ro (f_X2_at 11 x1) 1 (x2 / 10)) (f_X2_at 11 x1) 2 (x2 - x2 / 10 * 10)))))
  refine (wX_in rfl (by decide)).trans ?_
  show wG (d + 2) 99 (0, [.ref 10, .int x1, .int x2, .retAddr 0, .retAddr 0], [], mkH E ro) Q = _
  refine (r_aload_n rfl rfl rfl).trans ?_
  refine (r_iload_n rfl rfl rfl).trans ?_
  refine (r_inv (m := 137) (c := 9) rfl rfl rfl rfl rfl rfl rfl rfl).trans ?_
  refine (x_X9_stands (d := d) s_E).trans ?_
  show wG (d + 2) 99 (5, [.ref 10, .int x1, .int x2, .retAddr 0, .retAddr 0], [.int (f_X9_stands ro x1)], mkH E ro) Q = _
  refine (r_if_eq rfl rfl rfl).trans ?_
  refine Eq.trans (ite_congr rfl (fun h_0 => ?_) (fun h_0 => ?_)) q_is
  · refine (r_aload_n rfl rfl rfl).trans ?_
    refine (r_ldc (v := (-1000000001)) rfl rfl rfl).trans ?_
    refine (r_inv (m := 136) (c := 9) rfl rfl rfl rfl rfl rfl rfl rfl).trans ?_
    refine (x_X9_wrong (d := d) s_E (b0 h_0)).trans ?_
    show wG (d + 2) 99 (21, [.ref 10, .int x1, .int x2, .retAddr 0, .retAddr 0], [.int (f_X9_wrong (-1000000001))], mkH E (g_X9_wrong ro (-1000000001))) Q = _
    exact r_iret rfl rfl
  · refine (r_iload_n rfl rfl rfl).trans ?_
    refine (r_ins (m := 140) rfl rfl rfl rfl rfl rfl).trans ?_
    refine (x_X9_isKindAndM (d := d) s_E).trans ?_
    show wG (d + 2) 99 (12, [.ref 10, .int x1, .int x2, .retAddr 0, .retAddr 0], [.int (f_X9_isKindAndM x2)], mkH E ro) Q = _
    refine (r_if_ne rfl rfl rfl).trans ?_
    refine Eq.trans (ite_congr rfl (fun h_1 => ?_) (fun h_1 => ?_)) q_is
    · refine (r_aload_n rfl rfl rfl).trans ?_
      refine (r_ldc (v := (-1000000001)) rfl rfl rfl).trans ?_
      refine (r_inv (m := 136) (c := 9) rfl rfl rfl rfl rfl rfl rfl rfl).trans ?_
      refine (x_X9_wrong (d := d) s_E (b1 h_0 h_1)).trans ?_
      show wG (d + 2) 99 (21, [.ref 10, .int x1, .int x2, .retAddr 0, .retAddr 0], [.int (f_X9_wrong (-1000000001))], mkH E (g_X9_wrong ro (-1000000001))) Q = _
      exact r_iret rfl rfl
    · refine (r_aload_n rfl rfl rfl).trans ?_
      refine (r_getR (ci := 9) (sl := 0) s_E rfl rfl rfl rfl (by decide) rfl rfl).trans ?_
      refine (r_iload_n rfl rfl rfl).trans ?_
      refine (r_inv (m := 20) (c := 2) rfl rfl rfl rfl rfl rfl rfl rfl).trans ?_
      refine (x_X2_at (d := d + 1) s_E oP11).trans ?_
      show wG (d + 2) 99 (30, [.ref 10, .int x1, .int x2, .retAddr 0, .retAddr 0], [.ref (f_X2_at 11 x1)], mkH E ro) Q = _
      refine (r_astore_n rfl rfl rfl rfl).trans ?_
      refine (r_aload_n rfl rfl rfl).trans ?_
      refine (r_getI (ci := 5) (sl := 1) rfl rfl rfl (oSc_at oP11).2.1 (oSc_at oP11).1).trans ?_
      refine (r_istore rfl rfl rfl rfl).trans ?_
      refine (r_aload_n rfl rfl rfl).trans ?_
      refine (r_iload_n rfl rfl rfl).trans ?_
      refine (r_bipush (v := 10) rfl rfl rfl).trans ?_
      refine (r_idiv rfl rfl (by decide)).trans ?_
      refine (r_putI (ci := 5) (sl := 1) rfl rfl rfl (oSc_at oP11).2.1 (oSc_at oP11).1).trans ?_
      refine (r_aload_n rfl rfl rfl).trans ?_
      refine (r_iload_n rfl rfl rfl).trans ?_
      refine (r_bipush (v := 10) rfl rfl rfl).trans ?_
      refine (r_irem rfl rfl (by decide)).trans ?_
      refine (r_putI (ci := 5) (sl := 2) rfl rfl rfl (oSc_at oP11).2.1 (oSc_at oP11).1).trans ?_
      refine (r_iload rfl rfl rfl).trans ?_
      exact r_iret rfl rfl

def f_X9_set (ro : Nat → Nat → Int32) (x1 : Int32) (x2 : Int32) (x3 : Int32) : Int32 := (if (f_X9_stands ro x1) = 0 then f_X9_wrong (-1000000001) else (if (f_X5_mayHave x2 x3) = 0 then f_X9_wrong (-1000000001) else f_X5_change ro (f_X2_at 11 x1) x2 x3))
def g_X9_set (ro : Nat → Nat → Int32) (x1 : Int32) (x2 : Int32) (x3 : Int32) : Nat → Nat → Int32 := (if (f_X9_stands ro x1) = 0 then (g_X9_wrong ro (-1000000001)) else (if (f_X5_mayHave x2 x3) = 0 then (g_X9_wrong ro (-1000000001)) else (g_X5_change ro (f_X2_at 11 x1) x2 x3)))
theorem x_X9_set {d : Nat} {E : pEv} {ro : Nat → Nat → Int32} {Q : Option Value → pH → Prop} (s_E : oE E) {x1 : Int32} {x2 : Int32} {x3 : Int32} (b0 : ((f_X9_stands ro x1) = 0) → ((¬ (f_X9_within ((-1000000000) - ((-1000000001) : Int32)) 1 5) = 0) → (¬ (((-1000000000) - ((-1000000001) : Int32)) - 1) < 0 ∧ (((-1000000000) - ((-1000000001) : Int32)) - 1).toNatClampNeg < 5))) (b1 : (¬ (f_X9_stands ro x1) = 0) → ((f_X5_mayHave x2 x3) = 0) → ((¬ (f_X9_within ((-1000000000) - ((-1000000001) : Int32)) 1 5) = 0) → (¬ (((-1000000000) - ((-1000000001) : Int32)) - 1) < 0 ∧ (((-1000000000) - ((-1000000001) : Int32)) - 1).toNatClampNeg < 5))) : wX (d + 4) 101 [.ref 10, .int x1, .int x2, .int x3] (mkH E ro) Q = Q (some (.int (f_X9_set ro x1 x2 x3))) (mkH E (g_X9_set ro x1 x2 x3)) := by
  show _ = Q (some (.int (if (f_X9_stands ro x1) = 0 then f_X9_wrong (-1000000001) else (if (f_X5_mayHave x2 x3) = 0 then f_X9_wrong (-1000000001) else f_X5_change ro (f_X2_at 11 x1) x2 x3)))) (mkH E (if (f_X9_stands ro x1) = 0 then (g_X9_wrong ro (-1000000001)) else (if (f_X5_mayHave x2 x3) = 0 then (g_X9_wrong ro (-1000000001)) else (g_X5_change ro (f_X2_at 11 x1) x2 x3))))
  refine (wX_in rfl (by decide)).trans ?_
  show wG (d + 3) 101 (0, [.ref 10, .int x1, .int x2, .int x3], [], mkH E ro) Q = _
  refine (r_aload_n rfl rfl rfl).trans ?_
  refine (r_iload_n rfl rfl rfl).trans ?_
  refine (r_inv (m := 137) (c := 9) rfl rfl rfl rfl rfl rfl rfl rfl).trans ?_
  refine (x_X9_stands (d := d + 1) s_E).trans ?_
  show wG (d + 3) 101 (5, [.ref 10, .int x1, .int x2, .int x3], [.int (f_X9_stands ro x1)], mkH E ro) Q = _
  refine (r_if_eq rfl rfl rfl).trans ?_
  refine Eq.trans (ite_congr rfl (fun h_0 => ?_) (fun h_0 => ?_)) q_is
  · refine (r_aload_n rfl rfl rfl).trans ?_
    refine (r_ldc (v := (-1000000001)) rfl rfl rfl).trans ?_
    refine (r_inv (m := 136) (c := 9) rfl rfl rfl rfl rfl rfl rfl rfl).trans ?_
    refine (x_X9_wrong (d := d + 1) s_E (b0 h_0)).trans ?_
    show wG (d + 3) 101 (22, [.ref 10, .int x1, .int x2, .int x3], [.int (f_X9_wrong (-1000000001))], mkH E (g_X9_wrong ro (-1000000001))) Q = _
    exact r_iret rfl rfl
  · refine (r_iload_n rfl rfl rfl).trans ?_
    refine (r_iload_n rfl rfl rfl).trans ?_
    refine (r_ins (m := 76) rfl rfl rfl rfl rfl rfl).trans ?_
    refine (x_X5_mayHave (d := d + 1) s_E).trans ?_
    show wG (d + 3) 101 (13, [.ref 10, .int x1, .int x2, .int x3], [.int (f_X5_mayHave x2 x3)], mkH E ro) Q = _
    refine (r_if_ne rfl rfl rfl).trans ?_
    refine Eq.trans (ite_congr rfl (fun h_1 => ?_) (fun h_1 => ?_)) q_is
    · refine (r_aload_n rfl rfl rfl).trans ?_
      refine (r_ldc (v := (-1000000001)) rfl rfl rfl).trans ?_
      refine (r_inv (m := 136) (c := 9) rfl rfl rfl rfl rfl rfl rfl rfl).trans ?_
      refine (x_X9_wrong (d := d + 1) s_E (b1 h_0 h_1)).trans ?_
      show wG (d + 3) 101 (22, [.ref 10, .int x1, .int x2, .int x3], [.int (f_X9_wrong (-1000000001))], mkH E (g_X9_wrong ro (-1000000001))) Q = _
      exact r_iret rfl rfl
    · refine (r_aload_n rfl rfl rfl).trans ?_
      refine (r_getR (ci := 9) (sl := 0) s_E rfl rfl rfl rfl (by decide) rfl rfl).trans ?_
      refine (r_iload_n rfl rfl rfl).trans ?_
      refine (r_inv (m := 20) (c := 2) rfl rfl rfl rfl rfl rfl rfl rfl).trans ?_
      refine (x_X2_at (d := d + 2) s_E oP11).trans ?_
      show wG (d + 3) 101 (31, [.ref 10, .int x1, .int x2, .int x3], [.ref (f_X2_at 11 x1)], mkH E ro) Q = _
      refine (r_iload_n rfl rfl rfl).trans ?_
      refine (r_iload_n rfl rfl rfl).trans ?_
      refine (r_inv (m := 77) (c := 5) rfl rfl rfl rfl rfl rfl (oSc_at oP11).2.1 rfl).trans ?_
      refine (x_X5_change (d := d) s_E (oSc_at oP11)).trans ?_
      show wG (d + 3) 101 (36, [.ref 10, .int x1, .int x2, .int x3], [.int (f_X5_change ro (f_X2_at 11 x1) x2 x3)], mkH E (g_X5_change ro (f_X2_at 11 x1) x2 x3)) Q = _
      exact r_iret rfl rfl

def f_X9_given (ro : Nat → Nat → Int32) (x1 : Int32) : Int32 := (if (f_X9_isPlace ro x1) = 0 then f_X9_wrong (-1000000001) else f_X4_at ro 32 7 x1)
def g_X9_given (ro : Nat → Nat → Int32) (x1 : Int32) : Nat → Nat → Int32 := (if (f_X9_isPlace ro x1) = 0 then (g_X9_wrong ro (-1000000001)) else ro)
theorem x_X9_given {d : Nat} {E : pEv} {ro : Nat → Nat → Int32} {Q : Option Value → pH → Prop} (s_E : oE E) {x1 : Int32} (b0 : ((f_X9_isPlace ro x1) = 0) → ((¬ (f_X9_within ((-1000000000) - ((-1000000001) : Int32)) 1 5) = 0) → (¬ (((-1000000000) - ((-1000000001) : Int32)) - 1) < 0 ∧ (((-1000000000) - ((-1000000001) : Int32)) - 1).toNatClampNeg < 5))) : wX (d + 3) 103 [.ref 10, .int x1] (mkH E ro) Q = Q (some (.int (f_X9_given ro x1))) (mkH E (g_X9_given ro x1)) := by
  show _ = Q (some (.int (if (f_X9_isPlace ro x1) = 0 then f_X9_wrong (-1000000001) else f_X4_at ro 32 7 x1))) (mkH E (if (f_X9_isPlace ro x1) = 0 then (g_X9_wrong ro (-1000000001)) else ro))
  refine (wX_in rfl (by decide)).trans ?_
  show wG (d + 2) 103 (0, [.ref 10, .int x1], [], mkH E ro) Q = _
  refine (r_aload_n rfl rfl rfl).trans ?_
  refine (r_iload_n rfl rfl rfl).trans ?_
  refine (r_inv (m := 138) (c := 9) rfl rfl rfl rfl rfl rfl rfl rfl).trans ?_
  refine (x_X9_isPlace (d := d) s_E).trans ?_
  show wG (d + 2) 103 (5, [.ref 10, .int x1], [.int (f_X9_isPlace ro x1)], mkH E ro) Q = _
  refine (r_if_ne rfl rfl rfl).trans ?_
  refine Eq.trans (ite_congr rfl (fun h_0 => ?_) (fun h_0 => ?_)) q_is
  · refine (r_aload_n rfl rfl rfl).trans ?_
    refine (r_ldc (v := (-1000000001)) rfl rfl rfl).trans ?_
    refine (r_inv (m := 136) (c := 9) rfl rfl rfl rfl rfl rfl rfl rfl).trans ?_
    refine (x_X9_wrong (d := d) s_E (b0 h_0)).trans ?_
    show wG (d + 2) 103 (14, [.ref 10, .int x1], [.int (f_X9_wrong (-1000000001))], mkH E (g_X9_wrong ro (-1000000001))) Q = _
    exact r_iret rfl rfl
  · refine (r_aload_n rfl rfl rfl).trans ?_
    refine (r_getR (ci := 9) (sl := 0) s_E rfl rfl rfl rfl (by decide) rfl rfl).trans ?_
    refine (r_getR (ci := 2) (sl := 4) s_E rfl rfl rfl rfl (by decide) rfl rfl).trans ?_
    refine (r_iload_n rfl rfl rfl).trans ?_
    refine (r_inv (m := 57) (c := 4) rfl rfl rfl rfl rfl rfl rfl rfl).trans ?_
    refine (x_X4_at (d := d + 1) s_E (oR (c := 7) rfl)).trans ?_
    show wG (d + 2) 103 (26, [.ref 10, .int x1], [.int (f_X4_at ro 32 7 x1)], mkH E ro) Q = _
    exact r_iret rfl rfl

def f_X9_back (ro : Nat → Nat → Int32) (x1 : Int32) : Int32 := (if (f_X9_within x1 0 1) = 0 then f_X9_wrong (-1000000001) else ro 11 8)
def g_X9_back (ro : Nat → Nat → Int32) (x1 : Int32) : Nat → Nat → Int32 := (if (f_X9_within x1 0 1) = 0 then (g_X9_wrong ro (-1000000001)) else (uI ro 11 8 x1))
theorem x_X9_back {d : Nat} {E : pEv} {ro : Nat → Nat → Int32} {Q : Option Value → pH → Prop} (s_E : oE E) {x1 : Int32} (b0 : ((f_X9_within x1 0 1) = 0) → ((¬ (f_X9_within ((-1000000000) - ((-1000000001) : Int32)) 1 5) = 0) → (¬ (((-1000000000) - ((-1000000001) : Int32)) - 1) < 0 ∧ (((-1000000000) - ((-1000000001) : Int32)) - 1).toNatClampNeg < 5))) : wX (d + 3) 105 [.ref 10, .int x1] (mkH E ro) Q = Q (some (.int (f_X9_back ro x1))) (mkH E (g_X9_back ro x1)) := by
  show _ = Q (some (.int (if (f_X9_within x1 0 1) = 0 then f_X9_wrong (-1000000001) else ro 11 8))) (mkH E (if (f_X9_within x1 0 1) = 0 then (g_X9_wrong ro (-1000000001)) else (uI ro 11 8 x1)))
  refine (wX_in rfl (by decide)).trans ?_
  show wG (d + 2) 105 (0, [.ref 10, .int x1, .retAddr 0], [], mkH E ro) Q = _
  refine (r_iload_n rfl rfl rfl).trans ?_
  refine (r_iconst (v := 0) rfl rfl rfl).trans ?_
  refine (r_iconst (v := 1) rfl rfl rfl).trans ?_
  refine (r_ins (m := 146) rfl rfl rfl rfl rfl rfl).trans ?_
  refine (x_X9_within (d := d + 1) s_E).trans ?_
  show wG (d + 2) 105 (6, [.ref 10, .int x1, .retAddr 0], [.int (f_X9_within x1 0 1)], mkH E ro) Q = _
  refine (r_if_ne rfl rfl rfl).trans ?_
  refine Eq.trans (ite_congr rfl (fun h_0 => ?_) (fun h_0 => ?_)) q_is
  · refine (r_aload_n rfl rfl rfl).trans ?_
    refine (r_ldc (v := (-1000000001)) rfl rfl rfl).trans ?_
    refine (r_inv (m := 136) (c := 9) rfl rfl rfl rfl rfl rfl rfl rfl).trans ?_
    refine (x_X9_wrong (d := d) s_E (b0 h_0)).trans ?_
    show wG (d + 2) 105 (15, [.ref 10, .int x1, .retAddr 0], [.int (f_X9_wrong (-1000000001))], mkH E (g_X9_wrong ro (-1000000001))) Q = _
    exact r_iret rfl rfl
  · refine (r_aload_n rfl rfl rfl).trans ?_
    refine (r_getR (ci := 9) (sl := 0) s_E rfl rfl rfl rfl (by decide) rfl rfl).trans ?_
    refine (r_getI (ci := 2) (sl := 8) rfl rfl rfl rfl (by decide)).trans ?_
    refine (r_istore_n rfl rfl rfl rfl).trans ?_
    refine (r_aload_n rfl rfl rfl).trans ?_
    refine (r_getR (ci := 9) (sl := 0) s_E rfl rfl rfl rfl (by decide) rfl rfl).trans ?_
    refine (r_iload_n rfl rfl rfl).trans ?_
    refine (r_putI (ci := 2) (sl := 8) rfl rfl rfl rfl (by decide)).trans ?_
    refine (r_iload_n rfl rfl rfl).trans ?_
    exact r_iret rfl rfl

def f_X9_trace (ro : Nat → Nat → Int32) (x1 : Int32) : Int32 := (if (f_X9_within x1 0 ((ro 85 1) - 1)) = 0 then f_X9_wrong (-1000000002) else f_X4_at ro 85 40 x1)
def g_X9_trace (ro : Nat → Nat → Int32) (x1 : Int32) : Nat → Nat → Int32 := (if (f_X9_within x1 0 ((ro 85 1) - 1)) = 0 then (g_X9_wrong ro (-1000000002)) else ro)
theorem x_X9_trace {d : Nat} {E : pEv} {ro : Nat → Nat → Int32} {Q : Option Value → pH → Prop} (s_E : oE E) {x1 : Int32} (b0 : ((f_X9_within x1 0 ((ro 85 1) - 1)) = 0) → ((¬ (f_X9_within ((-1000000000) - ((-1000000002) : Int32)) 1 5) = 0) → (¬ (((-1000000000) - ((-1000000002) : Int32)) - 1) < 0 ∧ (((-1000000000) - ((-1000000002) : Int32)) - 1).toNatClampNeg < 5))) : wX (d + 3) 124 [.ref 10, .int x1] (mkH E ro) Q = Q (some (.int (f_X9_trace ro x1))) (mkH E (g_X9_trace ro x1)) := by
  show _ = Q (some (.int (if (f_X9_within x1 0 ((ro 85 1) - 1)) = 0 then f_X9_wrong (-1000000002) else f_X4_at ro 85 40 x1))) (mkH E (if (f_X9_within x1 0 ((ro 85 1) - 1)) = 0 then (g_X9_wrong ro (-1000000002)) else ro))
  refine (wX_in rfl (by decide)).trans ?_
  show wG (d + 2) 124 (0, [.ref 10, .int x1], [], mkH E ro) Q = _
  refine (r_iload_n rfl rfl rfl).trans ?_
  refine (r_iconst (v := 0) rfl rfl rfl).trans ?_
  refine (r_aload_n rfl rfl rfl).trans ?_
  refine (r_getR (ci := 9) (sl := 5) s_E rfl rfl rfl rfl (by decide) rfl rfl).trans ?_
  refine (r_getR (ci := 7) (sl := 0) s_E rfl rfl rfl rfl (by decide) rfl rfl).trans ?_
  refine (r_getI (ci := 4) (sl := 1) rfl rfl rfl rfl (by decide)).trans ?_
  refine (r_iconst (v := 1) rfl rfl rfl).trans ?_
  refine (r_isub rfl rfl).trans ?_
  refine (r_ins (m := 146) rfl rfl rfl rfl rfl rfl).trans ?_
  refine (x_X9_within (d := d + 1) s_E).trans ?_
  show wG (d + 2) 124 (17, [.ref 10, .int x1], [.int (f_X9_within x1 0 ((ro 85 1) - 1))], mkH E ro) Q = _
  refine (r_if_ne rfl rfl rfl).trans ?_
  refine Eq.trans (ite_congr rfl (fun h_0 => ?_) (fun h_0 => ?_)) q_is
  · refine (r_aload_n rfl rfl rfl).trans ?_
    refine (r_ldc (v := (-1000000002)) rfl rfl rfl).trans ?_
    refine (r_inv (m := 136) (c := 9) rfl rfl rfl rfl rfl rfl rfl rfl).trans ?_
    refine (x_X9_wrong (d := d) s_E (b0 h_0)).trans ?_
    show wG (d + 2) 124 (26, [.ref 10, .int x1], [.int (f_X9_wrong (-1000000002))], mkH E (g_X9_wrong ro (-1000000002))) Q = _
    exact r_iret rfl rfl
  · refine (r_aload_n rfl rfl rfl).trans ?_
    refine (r_getR (ci := 9) (sl := 5) s_E rfl rfl rfl rfl (by decide) rfl rfl).trans ?_
    refine (r_getR (ci := 7) (sl := 0) s_E rfl rfl rfl rfl (by decide) rfl rfl).trans ?_
    refine (r_iload_n rfl rfl rfl).trans ?_
    refine (r_inv (m := 57) (c := 4) rfl rfl rfl rfl rfl rfl rfl rfl).trans ?_
    refine (x_X4_at (d := d + 1) s_E (oR (c := 40) rfl)).trans ?_
    show wG (d + 2) 124 (38, [.ref 10, .int x1], [.int (f_X4_at ro 85 40 x1)], mkH E ro) Q = _
    exact r_iret rfl rfl

def f_X9_put (ro : Nat → Nat → Int32) (x1 : Int32) (x2 : Int32) (x3 : Int32) : Int32 := (if (f_X9_errorOfSheet ro x1) = 0 then (if (f_X9_within x2 0 ((ro ((f_X9_sheetAt x1) + 1) 1) - 1)) = 0 then f_X9_wrong (-1000000001) else 1) else f_X9_wrong (f_X9_errorOfSheet ro x1))
def g_X9_put (ro : Nat → Nat → Int32) (x1 : Int32) (x2 : Int32) (x3 : Int32) : Nat → Nat → Int32 := (if (f_X9_errorOfSheet ro x1) = 0 then (if (f_X9_within x2 0 ((ro ((f_X9_sheetAt x1) + 1) 1) - 1)) = 0 then (g_X9_wrong ro (-1000000001)) else (g_X6_write ro (f_X9_sheetAt x1) x2 x3)) else (g_X9_wrong ro (f_X9_errorOfSheet ro x1)))
theorem x_X9_put {d : Nat} {E : pEv} {ro : Nat → Nat → Int32} {Q : Option Value → pH → Prop} (s_E : oE E) {x1 : Int32} {x2 : Int32} {x3 : Int32} (b0 : ((f_X9_errorOfSheet ro x1) = 0) → ((f_X9_within x2 0 ((ro ((f_X9_sheetAt x1) + 1) 1) - 1)) = 0) → ((¬ (f_X9_within ((-1000000000) - ((-1000000001) : Int32)) 1 5) = 0) → (¬ (((-1000000000) - ((-1000000001) : Int32)) - 1) < 0 ∧ (((-1000000000) - ((-1000000001) : Int32)) - 1).toNatClampNeg < 5))) (b1 : (¬ (f_X9_errorOfSheet ro x1) = 0) → ((¬ (f_X9_within ((-1000000000) - (f_X9_errorOfSheet ro x1)) 1 5) = 0) → (¬ (((-1000000000) - (f_X9_errorOfSheet ro x1)) - 1) < 0 ∧ (((-1000000000) - (f_X9_errorOfSheet ro x1)) - 1).toNatClampNeg < 5))) : wX (d + 4) 126 [.ref 10, .int x1, .int x2, .int x3] (mkH E ro) Q = Q (some (.int (f_X9_put ro x1 x2 x3))) (mkH E (g_X9_put ro x1 x2 x3)) := by
  show _ = Q (some (.int (if (f_X9_errorOfSheet ro x1) = 0 then (if (f_X9_within x2 0 ((ro ((f_X9_sheetAt x1) + 1) 1) - 1)) = 0 then f_X9_wrong (-1000000001) else 1) else f_X9_wrong (f_X9_errorOfSheet ro x1)))) (mkH E (if (f_X9_errorOfSheet ro x1) = 0 then (if (f_X9_within x2 0 ((ro ((f_X9_sheetAt x1) + 1) 1) - 1)) = 0 then (g_X9_wrong ro (-1000000001)) else (g_X6_write ro (f_X9_sheetAt x1) x2 x3)) else (g_X9_wrong ro (f_X9_errorOfSheet ro x1))))
  refine (wX_in rfl (by decide)).trans ?_
  show wG (d + 3) 126 (0, [.ref 10, .int x1, .int x2, .int x3, .retAddr 0], [], mkH E ro) Q = _
  refine (r_aload_n rfl rfl rfl).trans ?_
  refine (r_iload_n rfl rfl rfl).trans ?_
  refine (r_inv (m := 144) (c := 9) rfl rfl rfl rfl rfl rfl rfl rfl).trans ?_
  refine (x_X9_errorOfSheet (d := d) s_E).trans ?_
  show wG (d + 3) 126 (5, [.ref 10, .int x1, .int x2, .int x3, .retAddr 0], [.int (f_X9_errorOfSheet ro x1)], mkH E ro) Q = _
  refine (r_istore rfl rfl rfl rfl).trans ?_
  refine (r_iload rfl rfl rfl).trans ?_
  refine (r_if_eq rfl rfl rfl).trans ?_
  refine Eq.trans (ite_congr rfl (fun h_0 => ?_) (fun h_0 => ?_)) q_is
  · refine (r_iload_n rfl rfl rfl).trans ?_
    refine (r_iconst (v := 0) rfl rfl rfl).trans ?_
    refine (r_aload_n rfl rfl rfl).trans ?_
    refine (r_iload_n rfl rfl rfl).trans ?_
    refine (r_inv (m := 143) (c := 9) rfl rfl rfl rfl rfl rfl rfl rfl).trans ?_
    refine (x_X9_sheetAt (d := d + 1) s_E).trans ?_
    show wG (d + 3) 126 (26, [.ref 10, .int x1, .int x2, .int x3, .int (f_X9_errorOfSheet ro x1)], [.ref (f_X9_sheetAt x1), .int 0, .int x2], mkH E ro) Q = _
    refine (r_getR (ci := 6) (sl := 0) s_E rfl rfl rfl oSh_at.2.1 oSh_at.1 oSh_at.2.2.1 (n81 oSh_at.2.1 (by decide))).trans ?_
    refine (r_getI (ci := 4) (sl := 1) rfl rfl rfl oSh_at.2.2.2.2.1 oSh_at.2.2.2.1).trans ?_
    refine (r_iconst (v := 1) rfl rfl rfl).trans ?_
    refine (r_isub rfl rfl).trans ?_
    refine (r_ins (m := 146) rfl rfl rfl rfl rfl rfl).trans ?_
    refine (x_X9_within (d := d + 2) s_E).trans ?_
    show wG (d + 3) 126 (37, [.ref 10, .int x1, .int x2, .int x3, .int (f_X9_errorOfSheet ro x1)], [.int (f_X9_within x2 0 ((ro ((f_X9_sheetAt x1) + 1) 1) - 1))], mkH E ro) Q = _
    refine (r_if_ne rfl rfl rfl).trans ?_
    refine Eq.trans (ite_congr rfl (fun h_1 => ?_) (fun h_1 => ?_)) q_is
    · refine (r_aload_n rfl rfl rfl).trans ?_
      refine (r_ldc (v := (-1000000001)) rfl rfl rfl).trans ?_
      refine (r_inv (m := 136) (c := 9) rfl rfl rfl rfl rfl rfl rfl rfl).trans ?_
      refine (x_X9_wrong (d := d + 1) s_E (b0 h_0 h_1)).trans ?_
      show wG (d + 3) 126 (46, [.ref 10, .int x1, .int x2, .int x3, .int (f_X9_errorOfSheet ro x1)], [.int (f_X9_wrong (-1000000001))], mkH E (g_X9_wrong ro (-1000000001))) Q = _
      exact r_iret rfl rfl
    · refine (r_aload_n rfl rfl rfl).trans ?_
      refine (r_iload_n rfl rfl rfl).trans ?_
      refine (r_inv (m := 143) (c := 9) rfl rfl rfl rfl rfl rfl rfl rfl).trans ?_
      refine (x_X9_sheetAt (d := d + 1) s_E).trans ?_
      show wG (d + 3) 126 (52, [.ref 10, .int x1, .int x2, .int x3, .int (f_X9_errorOfSheet ro x1)], [.ref (f_X9_sheetAt x1)], mkH E ro) Q = _
      refine (r_iload_n rfl rfl rfl).trans ?_
      refine (r_iload_n rfl rfl rfl).trans ?_
      refine (r_inv (m := 85) (c := 6) rfl rfl rfl rfl rfl rfl oSh_at.2.1 rfl).trans ?_
      refine (x_X6_write (d := d + 1) s_E oSh_at).trans ?_
      show wG (d + 3) 126 (57, [.ref 10, .int x1, .int x2, .int x3, .int (f_X9_errorOfSheet ro x1)], [], mkH E (g_X6_write ro (f_X9_sheetAt x1) x2 x3)) Q = _
      refine (r_iconst (v := 1) rfl rfl rfl).trans ?_
      exact r_iret rfl rfl
  · refine (r_aload_n rfl rfl rfl).trans ?_
    refine (r_iload rfl rfl rfl).trans ?_
    refine (r_inv (m := 136) (c := 9) rfl rfl rfl rfl rfl rfl rfl rfl).trans ?_
    refine (x_X9_wrong (d := d + 1) s_E (b1 h_0)).trans ?_
    show wG (d + 3) 126 (18, [.ref 10, .int x1, .int x2, .int x3, .int (f_X9_errorOfSheet ro x1)], [.int (f_X9_wrong (f_X9_errorOfSheet ro x1))], mkH E (g_X9_wrong ro (f_X9_errorOfSheet ro x1))) Q = _
    exact r_iret rfl rfl

def f_X9_move (ro : Nat → Nat → Int32) (x1 : Int32) (x2 : Int32) (x3 : Int32) (x4 : Int32) (x5 : Int32) : Int32 := (if (f_X9_isSheet x1) = 0 then f_X9_wrong (-1000000001) else (if (f_X9_isSheet x3) = 0 then f_X9_wrong (-1000000001) else (if (ro (f_X9_sheetAt x1) 1) = 0 then f_X9_wrong (-1000000002) else (if (ro (f_X9_sheetAt x3) 1) = 0 then f_X9_wrong (-1000000002) else (if (ro (f_X9_sheetAt x1) 1) = (ro (f_X9_sheetAt x3) 1) then (if (f_X4_spans ro ((f_X9_sheetAt x1) + 1) 40 x2 x5) = 0 then f_X9_wrong (-1000000001) else (if (f_X4_spans ro ((f_X9_sheetAt x3) + 1) 40 x4 x5) = 0 then f_X9_wrong (-1000000001) else x5)) else f_X9_wrong (-1000000005))))))
def g_X9_move (ro : Nat → Nat → Int32) (x1 : Int32) (x2 : Int32) (x3 : Int32) (x4 : Int32) (x5 : Int32) : Nat → Nat → Int32 := (if (f_X9_isSheet x1) = 0 then (g_X9_wrong ro (-1000000001)) else (if (f_X9_isSheet x3) = 0 then (g_X9_wrong ro (-1000000001)) else (if (ro (f_X9_sheetAt x1) 1) = 0 then (g_X9_wrong ro (-1000000002)) else (if (ro (f_X9_sheetAt x3) 1) = 0 then (g_X9_wrong ro (-1000000002)) else (if (ro (f_X9_sheetAt x1) 1) = (ro (f_X9_sheetAt x3) 1) then (if (f_X4_spans ro ((f_X9_sheetAt x1) + 1) 40 x2 x5) = 0 then (g_X9_wrong ro (-1000000001)) else (if (f_X4_spans ro ((f_X9_sheetAt x3) + 1) 40 x4 x5) = 0 then (g_X9_wrong ro (-1000000001)) else (g_X4_overwrite ro ((f_X9_sheetAt x3) + 1) 40 x4 ((f_X9_sheetAt x1) + 1) 40 x2 x5))) else (g_X9_wrong ro (-1000000005)))))))
theorem x_X9_move {d : Nat} {E : pEv} {ro : Nat → Nat → Int32} {Q : Option Value → pH → Prop} (s_E : oE E) {x1 : Int32} {x2 : Int32} {x3 : Int32} {x4 : Int32} {x5 : Int32} (b0 : ((f_X9_isSheet x1) = 0) → ((¬ (f_X9_within ((-1000000000) - ((-1000000001) : Int32)) 1 5) = 0) → (¬ (((-1000000000) - ((-1000000001) : Int32)) - 1) < 0 ∧ (((-1000000000) - ((-1000000001) : Int32)) - 1).toNatClampNeg < 5))) (b1 : (¬ (f_X9_isSheet x1) = 0) → ((f_X9_isSheet x3) = 0) → ((¬ (f_X9_within ((-1000000000) - ((-1000000001) : Int32)) 1 5) = 0) → (¬ (((-1000000000) - ((-1000000001) : Int32)) - 1) < 0 ∧ (((-1000000000) - ((-1000000001) : Int32)) - 1).toNatClampNeg < 5))) (b2 : (¬ (f_X9_isSheet x1) = 0) → (¬ (f_X9_isSheet x3) = 0) → ((ro (f_X9_sheetAt x1) 1) = 0) → ((¬ (f_X9_within ((-1000000000) - ((-1000000002) : Int32)) 1 5) = 0) → (¬ (((-1000000000) - ((-1000000002) : Int32)) - 1) < 0 ∧ (((-1000000000) - ((-1000000002) : Int32)) - 1).toNatClampNeg < 5))) (b3 : (¬ (f_X9_isSheet x1) = 0) → (¬ (f_X9_isSheet x3) = 0) → (¬ (ro (f_X9_sheetAt x1) 1) = 0) → ((ro (f_X9_sheetAt x3) 1) = 0) → ((¬ (f_X9_within ((-1000000000) - ((-1000000002) : Int32)) 1 5) = 0) → (¬ (((-1000000000) - ((-1000000002) : Int32)) - 1) < 0 ∧ (((-1000000000) - ((-1000000002) : Int32)) - 1).toNatClampNeg < 5))) (b4 : (¬ (f_X9_isSheet x1) = 0) → (¬ (f_X9_isSheet x3) = 0) → (¬ (ro (f_X9_sheetAt x1) 1) = 0) → (¬ (ro (f_X9_sheetAt x3) 1) = 0) → ((ro (f_X9_sheetAt x1) 1) = (ro (f_X9_sheetAt x3) 1)) → ((f_X4_spans ro ((f_X9_sheetAt x1) + 1) 40 x2 x5) = 0) → ((¬ (f_X9_within ((-1000000000) - ((-1000000001) : Int32)) 1 5) = 0) → (¬ (((-1000000000) - ((-1000000001) : Int32)) - 1) < 0 ∧ (((-1000000000) - ((-1000000001) : Int32)) - 1).toNatClampNeg < 5))) (b5 : (¬ (f_X9_isSheet x1) = 0) → (¬ (f_X9_isSheet x3) = 0) → (¬ (ro (f_X9_sheetAt x1) 1) = 0) → (¬ (ro (f_X9_sheetAt x3) 1) = 0) → ((ro (f_X9_sheetAt x1) 1) = (ro (f_X9_sheetAt x3) 1)) → (¬ (f_X4_spans ro ((f_X9_sheetAt x1) + 1) 40 x2 x5) = 0) → ((f_X4_spans ro ((f_X9_sheetAt x3) + 1) 40 x4 x5) = 0) → ((¬ (f_X9_within ((-1000000000) - ((-1000000001) : Int32)) 1 5) = 0) → (¬ (((-1000000000) - ((-1000000001) : Int32)) - 1) < 0 ∧ (((-1000000000) - ((-1000000001) : Int32)) - 1).toNatClampNeg < 5))) (b6 : (¬ (f_X9_isSheet x1) = 0) → (¬ (f_X9_isSheet x3) = 0) → (¬ (ro (f_X9_sheetAt x1) 1) = 0) → (¬ (ro (f_X9_sheetAt x3) 1) = 0) → ((ro (f_X9_sheetAt x1) 1) = (ro (f_X9_sheetAt x3) 1)) → (¬ (f_X4_spans ro ((f_X9_sheetAt x1) + 1) 40 x2 x5) = 0) → (¬ (f_X4_spans ro ((f_X9_sheetAt x3) + 1) 40 x4 x5) = 0) → ((¬ (f_X4_holds ro ((f_X9_sheetAt x1) + 1) 40 x2 x5) = 0) → (¬ (f_X4_holds ro ((f_X9_sheetAt x3) + 1) 40 x4 x5) = 0) → (¬ x2 < 0))) (b7 : (¬ (f_X9_isSheet x1) = 0) → (¬ (f_X9_isSheet x3) = 0) → (¬ (ro (f_X9_sheetAt x1) 1) = 0) → (¬ (ro (f_X9_sheetAt x3) 1) = 0) → ((ro (f_X9_sheetAt x1) 1) = (ro (f_X9_sheetAt x3) 1)) → (¬ (f_X4_spans ro ((f_X9_sheetAt x1) + 1) 40 x2 x5) = 0) → (¬ (f_X4_spans ro ((f_X9_sheetAt x3) + 1) 40 x4 x5) = 0) → ((¬ (f_X4_holds ro ((f_X9_sheetAt x1) + 1) 40 x2 x5) = 0) → (¬ (f_X4_holds ro ((f_X9_sheetAt x3) + 1) 40 x4 x5) = 0) → (¬ x4 < 0))) (b8 : (¬ (f_X9_isSheet x1) = 0) → (¬ (f_X9_isSheet x3) = 0) → (¬ (ro (f_X9_sheetAt x1) 1) = 0) → (¬ (ro (f_X9_sheetAt x3) 1) = 0) → ((ro (f_X9_sheetAt x1) 1) = (ro (f_X9_sheetAt x3) 1)) → (¬ (f_X4_spans ro ((f_X9_sheetAt x1) + 1) 40 x2 x5) = 0) → (¬ (f_X4_spans ro ((f_X9_sheetAt x3) + 1) 40 x4 x5) = 0) → ((¬ (f_X4_holds ro ((f_X9_sheetAt x1) + 1) 40 x2 x5) = 0) → (¬ (f_X4_holds ro ((f_X9_sheetAt x3) + 1) 40 x4 x5) = 0) → (¬ x5 < 0))) (b9 : (¬ (f_X9_isSheet x1) = 0) → (¬ (f_X9_isSheet x3) = 0) → (¬ (ro (f_X9_sheetAt x1) 1) = 0) → (¬ (ro (f_X9_sheetAt x3) 1) = 0) → ((ro (f_X9_sheetAt x1) 1) = (ro (f_X9_sheetAt x3) 1)) → (¬ (f_X4_spans ro ((f_X9_sheetAt x1) + 1) 40 x2 x5) = 0) → (¬ (f_X4_spans ro ((f_X9_sheetAt x3) + 1) 40 x4 x5) = 0) → ((¬ (f_X4_holds ro ((f_X9_sheetAt x1) + 1) 40 x2 x5) = 0) → (¬ (f_X4_holds ro ((f_X9_sheetAt x3) + 1) 40 x4 x5) = 0) → (x2.toNatClampNeg + x5.toNatClampNeg ≤ 40))) (b10 : (¬ (f_X9_isSheet x1) = 0) → (¬ (f_X9_isSheet x3) = 0) → (¬ (ro (f_X9_sheetAt x1) 1) = 0) → (¬ (ro (f_X9_sheetAt x3) 1) = 0) → ((ro (f_X9_sheetAt x1) 1) = (ro (f_X9_sheetAt x3) 1)) → (¬ (f_X4_spans ro ((f_X9_sheetAt x1) + 1) 40 x2 x5) = 0) → (¬ (f_X4_spans ro ((f_X9_sheetAt x3) + 1) 40 x4 x5) = 0) → ((¬ (f_X4_holds ro ((f_X9_sheetAt x1) + 1) 40 x2 x5) = 0) → (¬ (f_X4_holds ro ((f_X9_sheetAt x3) + 1) 40 x4 x5) = 0) → (x4.toNatClampNeg + x5.toNatClampNeg ≤ 40))) (b11 : (¬ (f_X9_isSheet x1) = 0) → (¬ (f_X9_isSheet x3) = 0) → (¬ (ro (f_X9_sheetAt x1) 1) = 0) → (¬ (ro (f_X9_sheetAt x3) 1) = 0) → (¬ (ro (f_X9_sheetAt x1) 1) = (ro (f_X9_sheetAt x3) 1)) → ((¬ (f_X9_within ((-1000000000) - ((-1000000005) : Int32)) 1 5) = 0) → (¬ (((-1000000000) - ((-1000000005) : Int32)) - 1) < 0 ∧ (((-1000000000) - ((-1000000005) : Int32)) - 1).toNatClampNeg < 5))) : wX (d + 4) 127 [.ref 10, .int x1, .int x2, .int x3, .int x4, .int x5] (mkH E ro) Q = Q (some (.int (f_X9_move ro x1 x2 x3 x4 x5))) (mkH E (g_X9_move ro x1 x2 x3 x4 x5)) := by
  show _ = Q (some (.int (if (f_X9_isSheet x1) = 0 then f_X9_wrong (-1000000001) else (if (f_X9_isSheet x3) = 0 then f_X9_wrong (-1000000001) else (if (ro (f_X9_sheetAt x1) 1) = 0 then f_X9_wrong (-1000000002) else (if (ro (f_X9_sheetAt x3) 1) = 0 then f_X9_wrong (-1000000002) else (if (ro (f_X9_sheetAt x1) 1) = (ro (f_X9_sheetAt x3) 1) then (if (f_X4_spans ro ((f_X9_sheetAt x1) + 1) 40 x2 x5) = 0 then f_X9_wrong (-1000000001) else (if (f_X4_spans ro ((f_X9_sheetAt x3) + 1) 40 x4 x5) = 0 then f_X9_wrong (-1000000001) else x5)) else f_X9_wrong (-1000000005)))))))) (mkH E (if (f_X9_isSheet x1) = 0 then (g_X9_wrong ro (-1000000001)) else (if (f_X9_isSheet x3) = 0 then (g_X9_wrong ro (-1000000001)) else (if (ro (f_X9_sheetAt x1) 1) = 0 then (g_X9_wrong ro (-1000000002)) else (if (ro (f_X9_sheetAt x3) 1) = 0 then (g_X9_wrong ro (-1000000002)) else (if (ro (f_X9_sheetAt x1) 1) = (ro (f_X9_sheetAt x3) 1) then (if (f_X4_spans ro ((f_X9_sheetAt x1) + 1) 40 x2 x5) = 0 then (g_X9_wrong ro (-1000000001)) else (if (f_X4_spans ro ((f_X9_sheetAt x3) + 1) 40 x4 x5) = 0 then (g_X9_wrong ro (-1000000001)) else (g_X4_overwrite ro ((f_X9_sheetAt x3) + 1) 40 x4 ((f_X9_sheetAt x1) + 1) 40 x2 x5))) else (g_X9_wrong ro (-1000000005))))))))
  refine (wX_in rfl (by decide)).trans ?_
  show wG (d + 3) 127 (0, [.ref 10, .int x1, .int x2, .int x3, .int x4, .int x5, .retAddr 0, .retAddr 0], [], mkH E ro) Q = _
  refine (r_iload_n rfl rfl rfl).trans ?_
  refine (r_ins (m := 142) rfl rfl rfl rfl rfl rfl).trans ?_
  refine (x_X9_isSheet (d := d + 1) s_E).trans ?_
  show wG (d + 3) 127 (4, [.ref 10, .int x1, .int x2, .int x3, .int x4, .int x5, .retAddr 0, .retAddr 0], [.int (f_X9_isSheet x1)], mkH E ro) Q = _
  refine (r_if_eq rfl rfl rfl).trans ?_
  refine Eq.trans (ite_congr rfl (fun h_0 => ?_) (fun h_0 => ?_)) q_is
  · refine (r_aload_n rfl rfl rfl).trans ?_
    refine (r_ldc (v := (-1000000001)) rfl rfl rfl).trans ?_
    refine (r_inv (m := 136) (c := 9) rfl rfl rfl rfl rfl rfl rfl rfl).trans ?_
    refine (x_X9_wrong (d := d + 1) s_E (b0 h_0)).trans ?_
    show wG (d + 3) 127 (20, [.ref 10, .int x1, .int x2, .int x3, .int x4, .int x5, .retAddr 0, .retAddr 0], [.int (f_X9_wrong (-1000000001))], mkH E (g_X9_wrong ro (-1000000001))) Q = _
    exact r_iret rfl rfl
  · refine (r_iload_n rfl rfl rfl).trans ?_
    refine (r_ins (m := 142) rfl rfl rfl rfl rfl rfl).trans ?_
    refine (x_X9_isSheet (d := d + 1) s_E).trans ?_
    show wG (d + 3) 127 (11, [.ref 10, .int x1, .int x2, .int x3, .int x4, .int x5, .retAddr 0, .retAddr 0], [.int (f_X9_isSheet x3)], mkH E ro) Q = _
    refine (r_if_ne rfl rfl rfl).trans ?_
    refine Eq.trans (ite_congr rfl (fun h_1 => ?_) (fun h_1 => ?_)) q_is
    · refine (r_aload_n rfl rfl rfl).trans ?_
      refine (r_ldc (v := (-1000000001)) rfl rfl rfl).trans ?_
      refine (r_inv (m := 136) (c := 9) rfl rfl rfl rfl rfl rfl rfl rfl).trans ?_
      refine (x_X9_wrong (d := d + 1) s_E (b1 h_0 h_1)).trans ?_
      show wG (d + 3) 127 (20, [.ref 10, .int x1, .int x2, .int x3, .int x4, .int x5, .retAddr 0, .retAddr 0], [.int (f_X9_wrong (-1000000001))], mkH E (g_X9_wrong ro (-1000000001))) Q = _
      exact r_iret rfl rfl
    · refine (r_aload_n rfl rfl rfl).trans ?_
      refine (r_iload_n rfl rfl rfl).trans ?_
      refine (r_inv (m := 143) (c := 9) rfl rfl rfl rfl rfl rfl rfl rfl).trans ?_
      refine (x_X9_sheetAt (d := d + 1) s_E).trans ?_
      show wG (d + 3) 127 (26, [.ref 10, .int x1, .int x2, .int x3, .int x4, .int x5, .retAddr 0, .retAddr 0], [.ref (f_X9_sheetAt x1)], mkH E ro) Q = _
      refine (r_astore rfl rfl rfl rfl).trans ?_
      refine (r_aload_n rfl rfl rfl).trans ?_
      refine (r_iload_n rfl rfl rfl).trans ?_
      refine (r_inv (m := 143) (c := 9) rfl rfl rfl rfl rfl rfl rfl rfl).trans ?_
      refine (x_X9_sheetAt (d := d + 1) s_E).trans ?_
      show wG (d + 3) 127 (33, [.ref 10, .int x1, .int x2, .int x3, .int x4, .int x5, .ref (f_X9_sheetAt x1), .retAddr 0], [.ref (f_X9_sheetAt x3)], mkH E ro) Q = _
      refine (r_astore rfl rfl rfl rfl).trans ?_
      refine (r_aload rfl rfl rfl).trans ?_
      refine (r_getI (ci := 6) (sl := 1) rfl rfl rfl oSh_at.2.1 oSh_at.1).trans ?_
      refine (r_if_eq rfl rfl rfl).trans ?_
      refine Eq.trans (ite_congr rfl (fun h_2 => ?_) (fun h_2 => ?_)) q_is
      · refine (r_aload_n rfl rfl rfl).trans ?_
        refine (r_ldc (v := (-1000000002)) rfl rfl rfl).trans ?_
        refine (r_inv (m := 136) (c := 9) rfl rfl rfl rfl rfl rfl rfl rfl).trans ?_
        refine (x_X9_wrong (d := d + 1) s_E (b2 h_0 h_1 h_2)).trans ?_
        show wG (d + 3) 127 (57, [.ref 10, .int x1, .int x2, .int x3, .int x4, .int x5, .ref (f_X9_sheetAt x1), .ref (f_X9_sheetAt x3)], [.int (f_X9_wrong (-1000000002))], mkH E (g_X9_wrong ro (-1000000002))) Q = _
        exact r_iret rfl rfl
      · refine (r_aload rfl rfl rfl).trans ?_
        refine (r_getI (ci := 6) (sl := 1) rfl rfl rfl oSh_at.2.1 oSh_at.1).trans ?_
        refine (r_if_ne rfl rfl rfl).trans ?_
        refine Eq.trans (ite_congr rfl (fun h_3 => ?_) (fun h_3 => ?_)) q_is
        · refine (r_aload_n rfl rfl rfl).trans ?_
          refine (r_ldc (v := (-1000000002)) rfl rfl rfl).trans ?_
          refine (r_inv (m := 136) (c := 9) rfl rfl rfl rfl rfl rfl rfl rfl).trans ?_
          refine (x_X9_wrong (d := d + 1) s_E (b3 h_0 h_1 h_2 h_3)).trans ?_
          show wG (d + 3) 127 (57, [.ref 10, .int x1, .int x2, .int x3, .int x4, .int x5, .ref (f_X9_sheetAt x1), .ref (f_X9_sheetAt x3)], [.int (f_X9_wrong (-1000000002))], mkH E (g_X9_wrong ro (-1000000002))) Q = _
          exact r_iret rfl rfl
        · refine (r_aload rfl rfl rfl).trans ?_
          refine (r_getI (ci := 6) (sl := 1) rfl rfl rfl oSh_at.2.1 oSh_at.1).trans ?_
          refine (r_aload rfl rfl rfl).trans ?_
          refine (r_getI (ci := 6) (sl := 1) rfl rfl rfl oSh_at.2.1 oSh_at.1).trans ?_
          refine (r_icmp_eq rfl rfl rfl).trans ?_
          refine Eq.trans (ite_congr rfl (fun h_4 => ?_) (fun h_4 => ?_)) q_is
          · refine (r_aload rfl rfl rfl).trans ?_
            refine (r_getR (ci := 6) (sl := 0) s_E rfl rfl rfl oSh_at.2.1 oSh_at.1 oSh_at.2.2.1 (n81 oSh_at.2.1 (by decide))).trans ?_
            refine (r_iload_n rfl rfl rfl).trans ?_
            refine (r_iload rfl rfl rfl).trans ?_
            refine (r_inv (m := 70) (c := 4) rfl rfl rfl rfl rfl rfl oSh_at.2.2.2.2.1 rfl).trans ?_
            refine (x_X4_spans (d := d + 2) s_E oSh_at.2.2.2).trans ?_
            show wG (d + 3) 127 (89, [.ref 10, .int x1, .int x2, .int x3, .int x4, .int x5, .ref (f_X9_sheetAt x1), .ref (f_X9_sheetAt x3)], [.int (f_X4_spans ro ((f_X9_sheetAt x1) + 1) 40 x2 x5)], mkH E ro) Q = _
            refine (r_if_eq rfl rfl rfl).trans ?_
            refine Eq.trans (ite_congr rfl (fun h_5 => ?_) (fun h_5 => ?_)) q_is
            · refine (r_aload_n rfl rfl rfl).trans ?_
              refine (r_ldc (v := (-1000000001)) rfl rfl rfl).trans ?_
              refine (r_inv (m := 136) (c := 9) rfl rfl rfl rfl rfl rfl rfl rfl).trans ?_
              refine (x_X9_wrong (d := d + 1) s_E (b4 h_0 h_1 h_2 h_3 h_4 h_5)).trans ?_
              show wG (d + 3) 127 (113, [.ref 10, .int x1, .int x2, .int x3, .int x4, .int x5, .ref (f_X9_sheetAt x1), .ref (f_X9_sheetAt x3)], [.int (f_X9_wrong (-1000000001))], mkH E (g_X9_wrong ro (-1000000001))) Q = _
              exact r_iret rfl rfl
            · refine (r_aload rfl rfl rfl).trans ?_
              refine (r_getR (ci := 6) (sl := 0) s_E rfl rfl rfl oSh_at.2.1 oSh_at.1 oSh_at.2.2.1 (n81 oSh_at.2.1 (by decide))).trans ?_
              refine (r_iload rfl rfl rfl).trans ?_
              refine (r_iload rfl rfl rfl).trans ?_
              refine (r_inv (m := 70) (c := 4) rfl rfl rfl rfl rfl rfl oSh_at.2.2.2.2.1 rfl).trans ?_
              refine (x_X4_spans (d := d + 2) s_E oSh_at.2.2.2).trans ?_
              show wG (d + 3) 127 (104, [.ref 10, .int x1, .int x2, .int x3, .int x4, .int x5, .ref (f_X9_sheetAt x1), .ref (f_X9_sheetAt x3)], [.int (f_X4_spans ro ((f_X9_sheetAt x3) + 1) 40 x4 x5)], mkH E ro) Q = _
              refine (r_if_ne rfl rfl rfl).trans ?_
              refine Eq.trans (ite_congr rfl (fun h_6 => ?_) (fun h_6 => ?_)) q_is
              · refine (r_aload_n rfl rfl rfl).trans ?_
                refine (r_ldc (v := (-1000000001)) rfl rfl rfl).trans ?_
                refine (r_inv (m := 136) (c := 9) rfl rfl rfl rfl rfl rfl rfl rfl).trans ?_
                refine (x_X9_wrong (d := d + 1) s_E (b5 h_0 h_1 h_2 h_3 h_4 h_5 h_6)).trans ?_
                show wG (d + 3) 127 (113, [.ref 10, .int x1, .int x2, .int x3, .int x4, .int x5, .ref (f_X9_sheetAt x1), .ref (f_X9_sheetAt x3)], [.int (f_X9_wrong (-1000000001))], mkH E (g_X9_wrong ro (-1000000001))) Q = _
                exact r_iret rfl rfl
              · refine (r_aload rfl rfl rfl).trans ?_
                refine (r_getR (ci := 6) (sl := 0) s_E rfl rfl rfl oSh_at.2.1 oSh_at.1 oSh_at.2.2.1 (n81 oSh_at.2.1 (by decide))).trans ?_
                refine (r_iload rfl rfl rfl).trans ?_
                refine (r_aload rfl rfl rfl).trans ?_
                refine (r_getR (ci := 6) (sl := 0) s_E rfl rfl rfl oSh_at.2.1 oSh_at.1 oSh_at.2.2.1 (n81 oSh_at.2.1 (by decide))).trans ?_
                refine (r_iload_n rfl rfl rfl).trans ?_
                refine (r_iload rfl rfl rfl).trans ?_
                refine (r_inv (m := 71) (c := 4) rfl rfl rfl rfl rfl rfl oSh_at.2.2.2.2.1 rfl).trans ?_
                refine (x_X4_overwrite (d := d) s_E oSh_at.2.2.2 oSh_at.2.2.2 (b6 h_0 h_1 h_2 h_3 h_4 h_5 h_6) (b7 h_0 h_1 h_2 h_3 h_4 h_5 h_6) (b8 h_0 h_1 h_2 h_3 h_4 h_5 h_6) (b9 h_0 h_1 h_2 h_3 h_4 h_5 h_6) (b10 h_0 h_1 h_2 h_3 h_4 h_5 h_6)).trans ?_
                show wG (d + 3) 127 (132, [.ref 10, .int x1, .int x2, .int x3, .int x4, .int x5, .ref (f_X9_sheetAt x1), .ref (f_X9_sheetAt x3)], [], mkH E (g_X4_overwrite ro ((f_X9_sheetAt x3) + 1) 40 x4 ((f_X9_sheetAt x1) + 1) 40 x2 x5)) Q = _
                refine (r_iload rfl rfl rfl).trans ?_
                exact r_iret rfl rfl
          · refine (r_aload_n rfl rfl rfl).trans ?_
            refine (r_ldc (v := (-1000000005)) rfl rfl rfl).trans ?_
            refine (r_inv (m := 136) (c := 9) rfl rfl rfl rfl rfl rfl rfl rfl).trans ?_
            refine (x_X9_wrong (d := d + 1) s_E (b11 h_0 h_1 h_2 h_3 h_4)).trans ?_
            show wG (d + 3) 127 (77, [.ref 10, .int x1, .int x2, .int x3, .int x4, .int x5, .ref (f_X9_sheetAt x1), .ref (f_X9_sheetAt x3)], [.int (f_X9_wrong (-1000000005))], mkH E (g_X9_wrong ro (-1000000005))) Q = _
            exact r_iret rfl rfl

def f_X9_tell (ro : Nat → Nat → Int32) (x1 : Int32) : Int32 := (if (ro 36 1) < 20 then (g_X4_add ro 36 20 x1) 36 1 else f_X9_wrong (-1000000004))
def g_X9_tell (ro : Nat → Nat → Int32) (x1 : Int32) : Nat → Nat → Int32 := (if (ro 36 1) < 20 then (g_X4_add ro 36 20 x1) else (g_X9_wrong ro (-1000000004)))
theorem x_X9_tell {d : Nat} {E : pEv} {ro : Nat → Nat → Int32} {Q : Option Value → pH → Prop} (s_E : oE E) {x1 : Int32} (b0 : (¬ (ro 36 1) < 20) → ((¬ (f_X9_within ((-1000000000) - ((-1000000004) : Int32)) 1 5) = 0) → (¬ (((-1000000000) - ((-1000000004) : Int32)) - 1) < 0 ∧ (((-1000000000) - ((-1000000004) : Int32)) - 1).toNatClampNeg < 5))) : wX (d + 3) 132 [.ref 10, .int x1] (mkH E ro) Q = Q (some (.int (f_X9_tell ro x1))) (mkH E (g_X9_tell ro x1)) := by
  show _ = Q (some (.int (if (ro 36 1) < 20 then (g_X4_add ro 36 20 x1) 36 1 else f_X9_wrong (-1000000004)))) (mkH E (if (ro 36 1) < 20 then (g_X4_add ro 36 20 x1) else (g_X9_wrong ro (-1000000004))))
  refine (wX_in rfl (by decide)).trans ?_
  show wG (d + 2) 132 (0, [.ref 10, .int x1], [], mkH E ro) Q = _
  refine (r_aload_n rfl rfl rfl).trans ?_
  refine (r_getR (ci := 9) (sl := 0) s_E rfl rfl rfl rfl (by decide) rfl rfl).trans ?_
  refine (r_getR (ci := 2) (sl := 6) s_E rfl rfl rfl rfl (by decide) rfl rfl).trans ?_
  refine (r_getI (ci := 4) (sl := 1) rfl rfl rfl rfl (by decide)).trans ?_
  refine (r_bipush (v := 20) rfl rfl rfl).trans ?_
  refine (r_icmp_lt rfl rfl rfl).trans ?_
  refine Eq.trans (ite_congr rfl (fun h_0 => ?_) (fun h_0 => ?_)) q_is
  · refine (r_aload_n rfl rfl rfl).trans ?_
    refine (r_getR (ci := 9) (sl := 0) s_E rfl rfl rfl rfl (by decide) rfl rfl).trans ?_
    refine (r_getR (ci := 2) (sl := 6) s_E rfl rfl rfl rfl (by decide) rfl rfl).trans ?_
    refine (r_iload_n rfl rfl rfl).trans ?_
    refine (r_inv (m := 59) (c := 4) rfl rfl rfl rfl rfl rfl rfl rfl).trans ?_
    refine (x_X4_add (d := d + 1) s_E (oR (c := 20) rfl)).trans ?_
    show wG (d + 2) 132 (33, [.ref 10, .int x1], [], mkH E (g_X4_add ro 36 20 x1)) Q = _
    refine (r_aload_n rfl rfl rfl).trans ?_
    refine (r_getR (ci := 9) (sl := 0) s_E rfl rfl rfl rfl (by decide) rfl rfl).trans ?_
    refine (r_getR (ci := 2) (sl := 6) s_E rfl rfl rfl rfl (by decide) rfl rfl).trans ?_
    refine (r_getI (ci := 4) (sl := 1) rfl rfl rfl rfl (by decide)).trans ?_
    exact r_iret rfl rfl
  · refine (r_aload_n rfl rfl rfl).trans ?_
    refine (r_ldc (v := (-1000000004)) rfl rfl rfl).trans ?_
    refine (r_inv (m := 136) (c := 9) rfl rfl rfl rfl rfl rfl rfl rfl).trans ?_
    refine (x_X9_wrong (d := d) s_E (b0 h_0)).trans ?_
    show wG (d + 2) 132 (21, [.ref 10, .int x1], [.int (f_X9_wrong (-1000000004))], mkH E (g_X9_wrong ro (-1000000004))) Q = _
    exact r_iret rfl rfl

def f_X9_told (ro : Nat → Nat → Int32) (x1 : Int32) : Int32 := (if (f_X9_within x1 1 5) = 0 then f_X9_wrong (-1000000001) else ro 100 (x1 - 1).toNatClampNeg)
def g_X9_told (ro : Nat → Nat → Int32) (x1 : Int32) : Nat → Nat → Int32 := (if (f_X9_within x1 1 5) = 0 then (g_X9_wrong ro (-1000000001)) else ro)
theorem x_X9_told {d : Nat} {E : pEv} {ro : Nat → Nat → Int32} {Q : Option Value → pH → Prop} (s_E : oE E) {x1 : Int32} (b0 : ((f_X9_within x1 1 5) = 0) → ((¬ (f_X9_within ((-1000000000) - ((-1000000001) : Int32)) 1 5) = 0) → (¬ (((-1000000000) - ((-1000000001) : Int32)) - 1) < 0 ∧ (((-1000000000) - ((-1000000001) : Int32)) - 1).toNatClampNeg < 5))) (b1 : (¬ (f_X9_within x1 1 5) = 0) → (¬ (x1 - 1) < 0 ∧ (x1 - 1).toNatClampNeg < 5)) : wX (d + 3) 135 [.ref 10, .int x1] (mkH E ro) Q = Q (some (.int (f_X9_told ro x1))) (mkH E (g_X9_told ro x1)) := by
  show _ = Q (some (.int (if (f_X9_within x1 1 5) = 0 then f_X9_wrong (-1000000001) else ro 100 (x1 - 1).toNatClampNeg))) (mkH E (if (f_X9_within x1 1 5) = 0 then (g_X9_wrong ro (-1000000001)) else ro))
  refine (wX_in rfl (by decide)).trans ?_
  show wG (d + 2) 135 (0, [.ref 10, .int x1], [], mkH E ro) Q = _
  refine (r_iload_n rfl rfl rfl).trans ?_
  refine (r_iconst (v := 1) rfl rfl rfl).trans ?_
  refine (r_iconst (v := 5) rfl rfl rfl).trans ?_
  refine (r_ins (m := 146) rfl rfl rfl rfl rfl rfl).trans ?_
  refine (x_X9_within (d := d + 1) s_E).trans ?_
  show wG (d + 2) 135 (6, [.ref 10, .int x1], [.int (f_X9_within x1 1 5)], mkH E ro) Q = _
  refine (r_if_ne rfl rfl rfl).trans ?_
  refine Eq.trans (ite_congr rfl (fun h_0 => ?_) (fun h_0 => ?_)) q_is
  · refine (r_aload_n rfl rfl rfl).trans ?_
    refine (r_ldc (v := (-1000000001)) rfl rfl rfl).trans ?_
    refine (r_inv (m := 136) (c := 9) rfl rfl rfl rfl rfl rfl rfl rfl).trans ?_
    refine (x_X9_wrong (d := d) s_E (b0 h_0)).trans ?_
    show wG (d + 2) 135 (15, [.ref 10, .int x1], [.int (f_X9_wrong (-1000000001))], mkH E (g_X9_wrong ro (-1000000001))) Q = _
    exact r_iret rfl rfl
  · refine (r_aload_n rfl rfl rfl).trans ?_
    refine (r_getR (ci := 9) (sl := 7) s_E rfl rfl rfl rfl (by decide) rfl rfl).trans ?_
    refine (r_iload_n rfl rfl rfl).trans ?_
    refine (r_iconst (v := 1) rfl rfl rfl).trans ?_
    refine (r_isub rfl rfl).trans ?_
    refine (r_iald rfl rfl rfl (by decide) (b1 h_0)).trans ?_
    exact r_iret rfl rfl
