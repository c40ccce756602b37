/-! loops: rounds counted from i on, k of them -/
def it {α : Type} (f : Nat → α → α) : Nat → Nat → α → α
  | 0, _, a => a
  | k + 1, i, a => it f k (i + 1) (f i a)
theorem it_end {α : Type} {f : Nat → α → α} : ∀ {k i : Nat} {a : α}, it f (k + 1) i a = f (i + k) (it f k i a) := by
  intro k
  induction k with
  | zero => intro i a; rfl
  | succ k ih =>
    intro i a
    show it f (k + 1) (i + 1) (f i a) = _
    rw [ih, show i + 1 + k = i + (k + 1) from by omega]
    rfl
theorem it_ind {α : Type} {f : Nat → α → α} {J : Nat → α → Prop} {i : Nat} {a : α} (h0 : J 0 a) (hs : ∀ k b, J k b → J (k + 1) (f (i + k) b)) : ∀ k, J k (it f k i a) := by
  intro k
  induction k with
  | zero => exact h0
  | succ k ih => rw [it_end]; exact hs k _ ih
theorem it_inv {α : Type} {f : Nat → α → α} {J : Nat → α → Prop} {n : Nat} (hs : ∀ k b, k < n → J k b → J (k + 1) (f k b)) {a : α} (h0 : J 0 a) : ∀ k, k ≤ n → J k (it f k 0 a) := by
  intro k
  induction k with
  | zero => intro _; exact h0
  | succ k ih =>
    intro hk
    rw [it_end, Nat.zero_add]
    exact hs k _ (by omega) (ih (by omega))
theorem loop_it {α : Type} {P : Nat → α → Prop} {R : α → Prop} {f : Nat → α → α} {I : Nat → α → Prop} {n : Nat} (hs : ∀ i a, i < n → I i a → P i a = P (i + 1) (f i a)) (hI : ∀ i a, i < n → I i a → I (i + 1) (f i a)) (he : ∀ a, I n a → P n a = R a) : ∀ k i a, i + k = n → I i a → P i a = R (it f k i a) := by
  intro k
  induction k with
  | zero =>
    intro i a hk h
    obtain rfl : i = n := by omega
    exact he a h
  | succ k ih =>
    intro i a hk h
    rw [hs i a (by omega) h]
    exact ih (i + 1) _ (by omega) (hI i a (by omega) h)
/-- a loop that may end early: c asks, X answers -/
def itx {α β : Type} (c : Nat → α → Bool) (X : Nat → α → β) (f : Nat → α → α) (Z : α → β) : Nat → Nat → α → β
  | 0, _, a => Z a
  | k + 1, i, a => if c i a then X i a else itx c X f Z k (i + 1) (f i a)
theorem loop_itx {α β : Type} {P : Nat → α → Prop} {R : β → Prop} {c : Nat → α → Bool} {X : Nat → α → β} {f : Nat → α → α} {Z : α → β} {I : Nat → α → Prop} {n : Nat} (hs : ∀ i a, i < n → I i a → P i a = if c i a then R (X i a) else P (i + 1) (f i a)) (hI : ∀ i a, i < n → I i a → c i a = false → I (i + 1) (f i a)) (he : ∀ a, I n a → P n a = R (Z a)) : ∀ k i a, i + k = n → I i a → P i a = R (itx c X f Z k i a) := by
  intro k
  induction k with
  | zero =>
    intro i a hk h
    obtain rfl : i = n := by omega
    exact he a h
  | succ k ih =>
    intro i a hk h
    rw [hs i a (by omega) h]
    unfold itx
    cases hc : c i a
    · simp only [Bool.false_eq_true, if_false]
      exact ih (i + 1) _ (by omega) (hI i a (by omega) h hc)
    · simp only [if_true]
theorem uI_at {ro : Nat → Nat → Int32} {a k : Nat} {v : Int32} {b j : Nat} : uI ro a k v b j = if b = a ∧ j = k then v else ro b j := by
  unfold uI va_up upd
  by_cases h1 : b = a
  · subst h1
    by_cases h2 : j = k <;> simp [h2]
  · simp [h1]
/-- a whole run of slots overwritten -/
def fR (ro : Nat → Nat → Int32) (a s : Nat) (g : Nat → Int32) : Nat → Nat → Int32 := fun b k => if b = a ∧ k < s then g k else ro b k
theorem fR_0 {ro : Nat → Nat → Int32} {a : Nat} {g : Nat → Int32} : fR ro a 0 g = ro := by
  funext b k
  simp [fR]
theorem fR_s {ro : Nat → Nat → Int32} {a s : Nat} {g : Nat → Int32} : uI (fR ro a s g) a s (g s) = fR ro a (s + 1) g := by
  funext b k
  rw [uI_at]
  unfold fR
  by_cases hb : b = a
  · by_cases hk : k = s
    · subst hk; simp [hb]
    · by_cases h2 : k < s
      · simp [hb, hk, h2, show k < s + 1 from by omega]
      · simp [hb, hk, h2, show ¬ k < s + 1 from by omega]
  · simp [hb]
/-- a row with a right size -/
def rK (ro : Nat → Nat → Int32) (r c s : Nat) : Prop := ro r 1 = nI s ∧ s ≤ c ∧ c < 1000
theorem at_in {ro : Nat → Nat → Int32} {r c s i : Nat} (h : rK ro r c s) (hi : i < s) : f_X4_at ro r c (nI i) = ro (r + 1) i := by
  obtain ⟨h1, h2, h3⟩ := h
  unfold f_X4_at
  rw [if_neg (nI_pos (by omega)), h1, if_pos (nI_lt hi (by omega)), if_pos (show nI i < Int32.ofNat c from nI_lt (by omega) (by omega)), nI_clamp (by omega)]
theorem at_out {ro : Nat → Nat → Int32} {r c s i : Nat} (h : rK ro r c s) (hi : s ≤ i) (hl : i < 2 ^ 31) : f_X4_at ro r c (nI i) = 0 := by
  obtain ⟨h1, h2, h3⟩ := h
  unfold f_X4_at
  rw [if_neg (nI_pos (by omega)), h1, if_neg (nI_nlt hi (by omega))]
theorem at_neg {ro : Nat → Nat → Int32} {r c : Nat} {x : Int32} (hx : x < 0) : f_X4_at ro r c x = 0 := by
  unfold f_X4_at
  rw [if_pos hx]
theorem change_in {ro : Nat → Nat → Int32} {r c s i : Nat} {v : Int32} (h : rK ro r c s) (hi : i < s) : g_X4_change ro r c (nI i) v = uI ro (r + 1) i v := by
  obtain ⟨h1, h2, h3⟩ := h
  unfold g_X4_change
  rw [if_neg (nI_pos (by omega)), h1, if_pos (nI_lt hi (by omega)), if_pos (show nI i < Int32.ofNat c from nI_lt (by omega) (by omega)), nI_clamp (by omega)]
theorem rK_u {ro : Nat → Nat → Int32} {r c s a k : Nat} {v : Int32} (h : rK ro r c s) (ha : r ≠ a ∨ k ≠ 1) : rK (uI ro a k v) r c s := by
  refine ⟨?_, h.2⟩
  rw [uI_at, if_neg (by omega)]
  exact h.1
theorem rK_f {ro : Nat → Nat → Int32} {r c s a n : Nat} {g : Nat → Int32} (h : rK ro r c s) (ha : r ≠ a) : rK (fR ro a n g) r c s := by
  refine ⟨?_, h.2⟩
  unfold fR
  rw [if_neg (by omega)]
  exact h.1
theorem le_X4_changeAll {d : Nat} {E : pEv} {ro : Nat → Nat → Int32} {Q : Option Value → pH → Prop} (s_E : oE E) {r0 c_h0 : Nat} (h0 : oRow r0 c_h0) {x1 : Int32} : wX (d + 2) 68 [.ref r0, .int x1] (mkH E ro) Q = wG (d + 1) 68 (2, [.ref r0, .int x1, .int 0], [], mkH E ro) Q := by
  refine (wX_in rfl (by decide)).trans ?_
  show wG (d + 1) 68 (0, [.ref r0, .int x1, .retAddr 0], [], mkH E ro) Q = _
  refine (r_iconst (v := 0) rfl rfl rfl).trans ?_
  refine (r_istore_n rfl rfl rfl rfl).trans ?_
  exact rfl

theorem lp_X4_changeAll_2 {d : Nat} {E : pEv} {ro : Nat → Nat → Int32} {Q : Option Value → pH → Prop} (s_E : oE E) {r0 c_h0 : Nat} (h0 : oRow r0 c_h0) {x1 : Int32} {x2 : Int32} : wG (d + 1) 68 (2, [.ref r0, .int x1, .int x2], [], mkH E ro) Q = (if x2 < (ro r0 1) then wG (d + 1) 68 (2, [.ref r0, .int x1, .int (x2 + 1)], [], mkH E (g_X4_change ro r0 c_h0 x2 x1)) Q else Q none (mkH E ro)) := by
  refine (r_iload_n rfl rfl rfl).trans ?_
  refine (r_aload_n rfl rfl rfl).trans ?_
  refine (r_getI (ci := 4) (sl := 1) rfl rfl rfl h0.2.1 h0.1).trans ?_
  refine (r_icmp_ge rfl rfl rfl).trans ?_
  refine ite_congr rfl (fun h_0 => ?_) (fun h_0 => ?_)
  · refine (r_aload_n rfl rfl rfl).trans ?_
    refine (r_iload_n rfl rfl rfl).trans ?_
    refine (r_iload_n rfl rfl rfl).trans ?_
    refine (r_inv (m := 58) (c := 4) rfl rfl rfl rfl rfl rfl h0.2.1 rfl).trans ?_
    refine (x_X4_change (d := d) s_E h0).trans ?_
    show wG (d + 1) 68 (16, [.ref r0, .int x1, .int x2], [], mkH E (g_X4_change ro r0 c_h0 x2 x1)) Q = _
    refine (r_iinc (y := 1) rfl rfl rfl rfl rfl rfl).trans ?_
    refine (r_goto rfl rfl).trans ?_
    exact rfl
  · exact r_vret rfl rfl

theorem le_X4_find {d : Nat} {E : pEv} {ro : Nat → Nat → Int32} {Q : Option Value → pH → Prop} (s_E : oE E) {r0 c_h0 : Nat} (h0 : oRow r0 c_h0) {x1 : Int32} : wX (d + 2) 63 [.ref r0, .int x1] (mkH E ro) Q = wG (d + 1) 63 (2, [.ref r0, .int x1, .int 0], [], mkH E ro) Q := by
  refine (wX_in rfl (by decide)).trans ?_
  show wG (d + 1) 63 (0, [.ref r0, .int x1, .retAddr 0], [], mkH E ro) Q = _
  refine (r_iconst (v := 0) rfl rfl rfl).trans ?_
  refine (r_istore_n rfl rfl rfl rfl).trans ?_
  exact rfl

theorem lp_X4_find_2 {d : Nat} {E : pEv} {ro : Nat → Nat → Int32} {Q : Option Value → pH → Prop} (s_E : oE E) {r0 c_h0 : Nat} (h0 : oRow r0 c_h0) {x1 : Int32} {x2 : Int32} : wG (d + 1) 63 (2, [.ref r0, .int x1, .int x2], [], mkH E ro) Q = (if x2 < (ro r0 1) then (if (f_X4_at ro r0 c_h0 x2) = x1 then Q (some (.int x2)) (mkH E ro) else wG (d + 1) 63 (2, [.ref r0, .int x1, .int (x2 + 1)], [], mkH E ro) Q) else Q (some (.int (-1))) (mkH E ro)) := by
  refine (r_iload_n rfl rfl rfl).trans ?_
  refine (r_aload_n rfl rfl rfl).trans ?_
  refine (r_getI (ci := 4) (sl := 1) rfl rfl rfl h0.2.1 h0.1).trans ?_
  refine (r_icmp_ge rfl rfl rfl).trans ?_
  refine ite_congr rfl (fun h_0 => ?_) (fun h_0 => ?_)
  · refine (r_aload_n rfl rfl rfl).trans ?_
    refine (r_iload_n rfl rfl rfl).trans ?_
    refine (r_inv (m := 57) (c := 4) rfl rfl rfl rfl rfl rfl h0.2.1 rfl).trans ?_
    refine (x_X4_at (d := d) s_E h0).trans ?_
    show wG (d + 1) 63 (15, [.ref r0, .int x1, .int x2], [.int (f_X4_at ro r0 c_h0 x2)], mkH E ro) Q = _
    refine (r_iload_n rfl rfl rfl).trans ?_
    refine (r_icmp_ne rfl rfl rfl).trans ?_
    refine ite_congr rfl (fun h_1 => ?_) (fun h_1 => ?_)
    · refine (r_iload_n rfl rfl rfl).trans ?_
      exact r_iret rfl rfl
    · refine (r_iinc (y := 1) rfl rfl rfl rfl rfl rfl).trans ?_
      refine (r_goto rfl rfl).trans ?_
      exact rfl
  · refine (r_iconst (v := (-1)) rfl rfl rfl).trans ?_
    exact r_iret rfl rfl

theorem le_X4_insert {d : Nat} {E : pEv} {ro : Nat → Nat → Int32} {Q : Option Value → pH → Prop} (s_E : oE E) {r0 c_h0 : Nat} (h0 : oRow r0 c_h0) {x1 : Int32} {x2 : Int32} : wX (d + 1) 61 [.ref r0, .int x1, .int x2] (mkH E ro) Q = (if x1 < 0 then Q none (mkH E ro) else (if (ro r0 1) < x1 then Q none (mkH E ro) else (if (ro r0 1) < (Int32.ofNat c_h0) then wG (d) 61 (30, [.ref r0, .int x1, .int x2, .int (ro r0 1)], [], mkH E ro) Q else Q none (mkH E ro)))) := by
  refine (wX_in rfl (by decide)).trans ?_
  show wG (d) 61 (0, [.ref r0, .int x1, .int x2, .retAddr 0], [], mkH E ro) Q = _
  refine (r_iload_n rfl rfl rfl).trans ?_
  refine (r_if_lt rfl rfl rfl).trans ?_
  refine ite_congr rfl (fun h_0 => ?_) (fun h_0 => ?_)
  · exact r_vret rfl rfl
  · refine (r_iload_n rfl rfl rfl).trans ?_
    refine (r_aload_n rfl rfl rfl).trans ?_
    refine (r_getI (ci := 4) (sl := 1) rfl rfl rfl h0.2.1 h0.1).trans ?_
    refine (r_icmp_gt rfl rfl rfl).trans ?_
    refine ite_congr rfl (fun h_1 => ?_) (fun h_1 => ?_)
    · exact r_vret rfl rfl
    · refine (r_aload_n rfl rfl rfl).trans ?_
      refine (r_getI (ci := 4) (sl := 1) rfl rfl rfl h0.2.1 h0.1).trans ?_
      refine (r_aload_n rfl rfl rfl).trans ?_
      refine (r_getR (ci := 4) (sl := 0) s_E rfl rfl rfl h0.2.1 h0.1 h0.2.2.1 (n81 h0.2.1 (by decide))).trans ?_
      refine (r_alen (v := Int32.ofNat c_h0) rfl rfl h0.2.2.2 (ne9 (Nat.le_succ_of_le h0.1)) (by decide) rfl).trans ?_
      refine (r_icmp_lt rfl rfl rfl).trans ?_
      refine ite_congr rfl (fun h_2 => ?_) (fun h_2 => ?_)
      · refine (r_aload_n rfl rfl rfl).trans ?_
        refine (r_getI (ci := 4) (sl := 1) rfl rfl rfl h0.2.1 h0.1).trans ?_
        refine (r_istore_n rfl rfl rfl rfl).trans ?_
        exact rfl
      · exact r_vret rfl rfl

theorem lp_X4_insert_30 {d : Nat} {E : pEv} {ro : Nat → Nat → Int32} {Q : Option Value → pH → Prop} (s_E : oE E) {r0 c_h0 : Nat} (h0 : oRow r0 c_h0) {x1 : Int32} {x2 : Int32} {x3 : Int32} (b0 : (x1 < x3) → (¬ (x3 - 1) < 0 ∧ (x3 - 1).toNatClampNeg < c_h0)) (b1 : (x1 < x3) → (¬ x3 < 0 ∧ x3.toNatClampNeg < c_h0)) (b2 : (¬ x1 < x3) → (¬ x1 < 0 ∧ x1.toNatClampNeg < c_h0)) : wG (d) 61 (30, [.ref r0, .int x1, .int x2, .int x3], [], mkH E ro) Q = (if x1 < x3 then wG (d) 61 (30, [.ref r0, .int x1, .int x2, .int (x3 + (-1))], [], mkH E (uI ro (r0 + 1) x3.toNatClampNeg (ro (r0 + 1) (x3 - 1).toNatClampNeg))) Q else Q none (mkH E (uI (uI ro (r0 + 1) x1.toNatClampNeg x2) r0 1 (((uI ro (r0 + 1) x1.toNatClampNeg x2) r0 1) + 1)))) := by
  refine (r_iload_n rfl rfl rfl).trans ?_
  refine (r_iload_n rfl rfl rfl).trans ?_
  refine (r_icmp_le rfl rfl rfl).trans ?_
  refine ite_congr rfl (fun h_0 => ?_) (fun h_0 => ?_)
  · refine (r_aload_n rfl rfl rfl).trans ?_
    refine (r_getR (ci := 4) (sl := 0) s_E rfl rfl rfl h0.2.1 h0.1 h0.2.2.1 (n81 h0.2.1 (by decide))).trans ?_
    refine (r_iload_n rfl rfl rfl).trans ?_
    refine (r_aload_n rfl rfl rfl).trans ?_
    refine (r_getR (ci := 4) (sl := 0) s_E rfl rfl rfl h0.2.1 h0.1 h0.2.2.1 (n81 h0.2.1 (by decide))).trans ?_
    refine (r_iload_n rfl rfl rfl).trans ?_
    refine (r_iconst (v := 1) rfl rfl rfl).trans ?_
    refine (r_isub rfl rfl).trans ?_
    refine (r_iald rfl rfl h0.2.2.2 (Nat.le_succ_of_le h0.1) (b0 h_0)).trans ?_
    refine (r_iast rfl rfl h0.2.2.2 (Nat.le_succ_of_le h0.1) (b1 h_0)).trans ?_
    refine (r_iinc (y := (-1)) rfl rfl rfl rfl rfl rfl).trans ?_
    refine (r_goto rfl rfl).trans ?_
    exact rfl
  · refine (r_aload_n rfl rfl rfl).trans ?_
    refine (r_getR (ci := 4) (sl := 0) s_E rfl rfl rfl h0.2.1 h0.1 h0.2.2.1 (n81 h0.2.1 (by decide))).trans ?_
    refine (r_iload_n rfl rfl rfl).trans ?_
    refine (r_iload_n rfl rfl rfl).trans ?_
    refine (r_iast rfl rfl h0.2.2.2 (Nat.le_succ_of_le h0.1) (b2 h_0)).trans ?_
    refine (r_aload_n rfl rfl rfl).trans ?_
    refine (r_dupR rfl rfl).trans ?_
    refine (r_getI (ci := 4) (sl := 1) rfl rfl rfl h0.2.1 h0.1).trans ?_
    refine (r_iconst (v := 1) rfl rfl rfl).trans ?_
    refine (r_iadd rfl rfl).trans ?_
    refine (r_putI (ci := 4) (sl := 1) rfl rfl rfl h0.2.1 h0.1).trans ?_
    exact r_vret rfl rfl

theorem le_X4_removeAt {d : Nat} {E : pEv} {ro : Nat → Nat → Int32} {Q : Option Value → pH → Prop} (s_E : oE E) {r0 c_h0 : Nat} (h0 : oRow r0 c_h0) {x1 : Int32} : wX (d + 1) 62 [.ref r0, .int x1] (mkH E ro) Q = (if x1 < 0 then Q none (mkH E ro) else (if x1 < (ro r0 1) then (if (Int32.ofNat c_h0) < (ro r0 1) then Q none (mkH E ro) else wG (d) 62 (27, [.ref r0, .int x1, .int x1], [], mkH E ro) Q) else Q none (mkH E ro))) := by
  refine (wX_in rfl (by decide)).trans ?_
  show wG (d) 62 (0, [.ref r0, .int x1, .retAddr 0], [], mkH E ro) Q = _
  refine (r_iload_n rfl rfl rfl).trans ?_
  refine (r_if_lt rfl rfl rfl).trans ?_
  refine ite_congr rfl (fun h_0 => ?_) (fun h_0 => ?_)
  · exact r_vret rfl rfl
  · refine (r_iload_n rfl rfl rfl).trans ?_
    refine (r_aload_n rfl rfl rfl).trans ?_
    refine (r_getI (ci := 4) (sl := 1) rfl rfl rfl h0.2.1 h0.1).trans ?_
    refine (r_icmp_ge rfl rfl rfl).trans ?_
    refine ite_congr rfl (fun h_1 => ?_) (fun h_1 => ?_)
    · refine (r_aload_n rfl rfl rfl).trans ?_
      refine (r_getI (ci := 4) (sl := 1) rfl rfl rfl h0.2.1 h0.1).trans ?_
      refine (r_aload_n rfl rfl rfl).trans ?_
      refine (r_getR (ci := 4) (sl := 0) s_E rfl rfl rfl h0.2.1 h0.1 h0.2.2.1 (n81 h0.2.1 (by decide))).trans ?_
      refine (r_alen (v := Int32.ofNat c_h0) rfl rfl h0.2.2.2 (ne9 (Nat.le_succ_of_le h0.1)) (by decide) rfl).trans ?_
      refine (r_icmp_le rfl rfl rfl).trans ?_
      refine ite_congr rfl (fun h_2 => ?_) (fun h_2 => ?_)
      · exact r_vret rfl rfl
      · refine (r_iload_n rfl rfl rfl).trans ?_
        refine (r_istore_n rfl rfl rfl rfl).trans ?_
        exact rfl
    · exact r_vret rfl rfl

theorem lp_X4_removeAt_27 {d : Nat} {E : pEv} {ro : Nat → Nat → Int32} {Q : Option Value → pH → Prop} (s_E : oE E) {r0 c_h0 : Nat} (h0 : oRow r0 c_h0) {x1 : Int32} {x2 : Int32} (b0 : (x2 < ((ro r0 1) - 1)) → (¬ (x2 + 1) < 0 ∧ (x2 + 1).toNatClampNeg < c_h0)) (b1 : (x2 < ((ro r0 1) - 1)) → (¬ x2 < 0 ∧ x2.toNatClampNeg < c_h0)) : wG (d) 62 (27, [.ref r0, .int x1, .int x2], [], mkH E ro) Q = (if x2 < ((ro r0 1) - 1) then wG (d) 62 (27, [.ref r0, .int x1, .int (x2 + 1)], [], mkH E (uI ro (r0 + 1) x2.toNatClampNeg (ro (r0 + 1) (x2 + 1).toNatClampNeg))) Q else Q none (mkH E (uI ro r0 1 ((ro r0 1) - 1)))) := by
  refine (r_iload_n rfl rfl rfl).trans ?_
  refine (r_aload_n rfl rfl rfl).trans ?_
  refine (r_getI (ci := 4) (sl := 1) rfl rfl rfl h0.2.1 h0.1).trans ?_
  refine (r_iconst (v := 1) rfl rfl rfl).trans ?_
  refine (r_isub rfl rfl).trans ?_
  refine (r_icmp_ge rfl rfl rfl).trans ?_
  refine ite_congr rfl (fun h_0 => ?_) (fun h_0 => ?_)
  · refine (r_aload_n rfl rfl rfl).trans ?_
    refine (r_getR (ci := 4) (sl := 0) s_E rfl rfl rfl h0.2.1 h0.1 h0.2.2.1 (n81 h0.2.1 (by decide))).trans ?_
    refine (r_iload_n rfl rfl rfl).trans ?_
    refine (r_aload_n rfl rfl rfl).trans ?_
    refine (r_getR (ci := 4) (sl := 0) s_E rfl rfl rfl h0.2.1 h0.1 h0.2.2.1 (n81 h0.2.1 (by decide))).trans ?_
    refine (r_iload_n rfl rfl rfl).trans ?_
    refine (r_iconst (v := 1) rfl rfl rfl).trans ?_
    refine (r_iadd rfl rfl).trans ?_
    refine (r_iald rfl rfl h0.2.2.2 (Nat.le_succ_of_le h0.1) (b0 h_0)).trans ?_
    refine (r_iast rfl rfl h0.2.2.2 (Nat.le_succ_of_le h0.1) (b1 h_0)).trans ?_
    refine (r_iinc (y := 1) rfl rfl rfl rfl rfl rfl).trans ?_
    refine (r_goto rfl rfl).trans ?_
    exact rfl
  · refine (r_aload_n rfl rfl rfl).trans ?_
    refine (r_dupR rfl rfl).trans ?_
    refine (r_getI (ci := 4) (sl := 1) rfl rfl rfl h0.2.1 h0.1).trans ?_
    refine (r_iconst (v := 1) rfl rfl rfl).trans ?_
    refine (r_isub rfl rfl).trans ?_
    refine (r_putI (ci := 4) (sl := 1) rfl rfl rfl h0.2.1 h0.1).trans ?_
    exact r_vret rfl rfl

theorem le_X4_reverse {d : Nat} {E : pEv} {ro : Nat → Nat → Int32} {Q : Option Value → pH → Prop} (s_E : oE E) {r0 c_h0 : Nat} (h0 : oRow r0 c_h0) : wX (d + 3) 65 [.ref r0] (mkH E ro) Q = wG (d + 2) 65 (2, [.ref r0, .int 0], [], mkH E ro) Q := by
  refine (wX_in rfl (by decide)).trans ?_
  show wG (d + 2) 65 (0, [.ref r0, .retAddr 0], [], mkH E ro) Q = _
  refine (r_iconst (v := 0) rfl rfl rfl).trans ?_
  refine (r_istore_n rfl rfl rfl rfl).trans ?_
  exact rfl

theorem lp_X4_reverse_2 {d : Nat} {E : pEv} {ro : Nat → Nat → Int32} {Q : Option Value → pH → Prop} (s_E : oE E) {r0 c_h0 : Nat} (h0 : oRow r0 c_h0) {x1 : Int32} : wG (d + 2) 65 (2, [.ref r0, .int x1], [], mkH E ro) Q = (if x1 < ((ro r0 1) / 2) then wG (d + 2) 65 (2, [.ref r0, .int (x1 + 1)], [], mkH E (g_X4_swap ro r0 c_h0 x1 (((ro r0 1) - 1) - x1))) Q else Q none (mkH E ro)) := by
  refine (r_iload_n rfl rfl rfl).trans ?_
  refine (r_aload_n rfl rfl rfl).trans ?_
  refine (r_getI (ci := 4) (sl := 1) rfl rfl rfl h0.2.1 h0.1).trans ?_
  refine (r_iconst (v := 2) rfl rfl rfl).trans ?_
  refine (r_idiv rfl rfl (by decide)).trans ?_
  refine (r_icmp_ge rfl rfl rfl).trans ?_
  refine ite_congr rfl (fun h_0 => ?_) (fun h_0 => ?_)
  · refine (r_aload_n rfl rfl rfl).trans ?_
    refine (r_iload_n rfl rfl rfl).trans ?_
    refine (r_aload_n rfl rfl rfl).trans ?_
    refine (r_getI (ci := 4) (sl := 1) rfl rfl rfl h0.2.1 h0.1).trans ?_
    refine (r_iconst (v := 1) rfl rfl rfl).trans ?_
    refine (r_isub rfl rfl).trans ?_
    refine (r_iload_n rfl rfl rfl).trans ?_
    refine (r_isub rfl rfl).trans ?_
    refine (r_inv (m := 64) (c := 4) rfl rfl rfl rfl rfl rfl h0.2.1 rfl).trans ?_
    refine (x_X4_swap (d := d) s_E h0).trans ?_
    show wG (d + 2) 65 (25, [.ref r0, .int x1], [], mkH E (g_X4_swap ro r0 c_h0 x1 (((ro r0 1) - 1) - x1))) Q = _
    refine (r_iinc (y := 1) rfl rfl rfl rfl rfl rfl).trans ?_
    refine (r_goto rfl rfl).trans ?_
    exact rfl
  · exact r_vret rfl rfl

theorem le_X9_isUnder {d : Nat} {E : pEv} {ro : Nat → Nat → Int32} {Q : Option Value → pH → Prop} (s_E : oE E) {x0 : Int32} {x1 : Int32} : wX (d + 3) 151 [.int x0, .int x1] (mkH E ro) Q = wG (d + 2) 151 (4, [.int x0, .int x1, .int x0, .int 0], [], mkH E ro) Q := by
  refine (wX_in rfl (by decide)).trans ?_
  show wG (d + 2) 151 (0, [.int x0, .int x1, .retAddr 0, .retAddr 0], [], mkH E ro) Q = _
  refine (r_iload_n rfl rfl rfl).trans ?_
  refine (r_istore_n rfl rfl rfl rfl).trans ?_
  refine (r_iconst (v := 0) rfl rfl rfl).trans ?_
  refine (r_istore_n rfl rfl rfl rfl).trans ?_
  exact rfl

theorem lp_X9_isUnder_4 {d : Nat} {E : pEv} {ro : Nat → Nat → Int32} {Q : Option Value → pH → Prop} (s_E : oE E) {x0 : Int32} {x1 : Int32} {x2 : Int32} {x3 : Int32} : wG (d + 2) 151 (4, [.int x0, .int x1, .int x2, .int x3], [], mkH E ro) Q = (if x3 < 7 then (if x2 < 0 then Q (some (.int 0)) (mkH E ro) else (if x2 = x1 then Q (some (.int 1)) (mkH E ro) else wG (d + 2) 151 (4, [.int x0, .int x1, .int (f_X9_aboveOf E x2), .int (x3 + 1)], [], mkH E ro) Q)) else Q (some (.int 0)) (mkH E ro)) := by
  refine (r_iload_n rfl rfl rfl).trans ?_
  refine (r_bipush (v := 7) rfl rfl rfl).trans ?_
  refine (r_icmp_ge rfl rfl rfl).trans ?_
  refine ite_congr rfl (fun h_0 => ?_) (fun h_0 => ?_)
  · refine (r_iload_n rfl rfl rfl).trans ?_
    refine (r_if_lt rfl rfl rfl).trans ?_
    refine ite_congr rfl (fun h_1 => ?_) (fun h_1 => ?_)
    · refine (r_iconst (v := 0) rfl rfl rfl).trans ?_
      exact r_zret rfl rfl rfl
    · refine (r_iload_n rfl rfl rfl).trans ?_
      refine (r_iload_n rfl rfl rfl).trans ?_
      refine (r_icmp_ne rfl rfl rfl).trans ?_
      refine ite_congr rfl (fun h_2 => ?_) (fun h_2 => ?_)
      · refine (r_iconst (v := 1) rfl rfl rfl).trans ?_
        exact r_zret rfl rfl rfl
      · refine (r_iload_n rfl rfl rfl).trans ?_
        refine (r_ins (m := 150) rfl rfl rfl rfl rfl rfl).trans ?_
        refine (x_X9_aboveOf (d := d) s_E).trans ?_
        show wG (d + 2) 151 (25, [.int x0, .int x1, .int x2, .int x3], [.int (f_X9_aboveOf E x2)], mkH E ro) Q = _
        refine (r_istore_n rfl rfl rfl rfl).trans ?_
        refine (r_iinc (y := 1) rfl rfl rfl rfl rfl rfl).trans ?_
        refine (r_goto rfl rfl).trans ?_
        exact rfl
  · refine (r_iconst (v := 0) rfl rfl rfl).trans ?_
    exact r_zret rfl rfl rfl

theorem x_X4_changeAll {d : Nat} {E : pEv} {ro : Nat → Nat → Int32} {Q : Option Value → pH → Prop} (s_E : oE E) {r0 c_h0 : Nat} (h0 : oRow r0 c_h0) {x1 : Int32} {s : Nat} (hs : rK ro r0 c_h0 s) : wX (d + 2) 68 [.ref r0, .int x1] (mkH E ro) Q = Q none (mkH E (fR ro (r0 + 1) s (fun _ => x1))) := by
  refine (le_X4_changeAll s_E h0).trans ?_
  have := loop_it (α := Nat → Nat → Int32) (P := fun i ro => wG (d + 1) 68 (2, [.ref r0, .int x1, .int (nI i)], [], mkH E ro) Q) (R := fun r => Q none (mkH E r)) (f := fun i r => uI r (r0 + 1) i x1) (I := fun _ r => rK r r0 c_h0 s) (n := s)
    (fun i r hi hr => by
      show wG (d + 1) 68 (2, [.ref r0, .int x1, .int (nI i)], [], mkH E r) Q = _
      rw [lp_X4_changeAll_2 s_E h0, hr.1, if_pos (nI_lt hi (by have := hr.2; omega)), change_in hr hi, ← nI_succ])
    (fun i r hi hr => rK_u hr (by omega))
    (fun r hr => by
      show wG (d + 1) 68 (2, [.ref r0, .int x1, .int (nI s)], [], mkH E r) Q = _
      rw [lp_X4_changeAll_2 s_E h0, hr.1, if_neg (nI_nlt (Nat.le_refl _) (by have := hr.2; omega))])
    s 0 ro (by omega) hs
  refine this.trans ?_
  have e : ∀ k, it (fun i r => uI r (r0 + 1) i x1) k 0 ro = fR ro (r0 + 1) k (fun _ => x1) := by
    intro k
    induction k with
    | zero => exact fR_0.symm
    | succ k ih => rw [it_end, ih, Nat.zero_add]; exact fR_s
  show Q none (mkH E (it (fun i r => uI r (r0 + 1) i x1) s 0 ro)) = _
  rw [e]
/-- where a value first stands -/
def fi (g : Nat → Int32) (v : Int32) (s : Nat) : Int32 := itx (fun i (_ : Unit) => g i == v) (fun i _ => nI i) (fun _ a => a) (fun _ => -1) s 0 ()
theorem x_X4_find {d : Nat} {E : pEv} {ro : Nat → Nat → Int32} {Q : Option Value → pH → Prop} (s_E : oE E) {r0 c_h0 : Nat} (h0 : oRow r0 c_h0) {x1 : Int32} {s : Nat} (hs : rK ro r0 c_h0 s) : wX (d + 2) 63 [.ref r0, .int x1] (mkH E ro) Q = Q (some (.int (fi (ro (r0 + 1)) x1 s))) (mkH E ro) := by
  refine (le_X4_find s_E h0).trans ?_
  have hc := hs.2
  exact loop_itx (α := Unit) (P := fun i _ => wG (d + 1) 63 (2, [.ref r0, .int x1, .int (nI i)], [], mkH E ro) Q) (R := fun r => Q (some (.int r)) (mkH E ro)) (I := fun _ _ => True) (n := s)
    (fun i a hi _ => by
      show wG (d + 1) 63 (2, [.ref r0, .int x1, .int (nI i)], [], mkH E ro) Q = _
      rw [lp_X4_find_2 s_E h0, hs.1, if_pos (nI_lt hi (by omega)), at_in hs hi, ← nI_succ]
      by_cases h : ro (r0 + 1) i = x1
      · simp [h]
      · simp [h])
    (fun _ _ _ _ _ => trivial)
    (fun a _ => by
      show wG (d + 1) 63 (2, [.ref r0, .int x1, .int (nI s)], [], mkH E ro) Q = _
      rw [lp_X4_find_2 s_E h0, hs.1, if_neg (nI_nlt (Nat.le_refl _) (by omega))])
    s 0 () (by omega) trivial
theorem x_X4_insert {d : Nat} {E : pEv} {ro : Nat → Nat → Int32} {Q : Option Value → pH → Prop} (s_E : oE E) {r0 c_h0 : Nat} (h0 : oRow r0 c_h0) {p s : Nat} {x2 : Int32} (hs : rK ro r0 c_h0 s) (hp : p ≤ s) (hl : s < c_h0) : wX (d + 1) 61 [.ref r0, .int (nI p), .int x2] (mkH E ro) Q = Q none (mkH E (uI (fR ro (r0 + 1) (s + 1) (fun j => if j < p then ro (r0 + 1) j else if j = p then x2 else ro (r0 + 1) (j - 1))) r0 1 (nI (s + 1)))) := by
  have hc := hs.2
  refine (le_X4_insert s_E h0).trans ?_
  rw [if_neg (nI_pos (by omega)), hs.1, if_neg (nI_nlt hp (by omega)), if_pos (show nI s < Int32.ofNat c_h0 from nI_lt hl (by omega))]
  have key : ∀ k r, p + k ≤ s → (∀ b j, r b j = if b = r0 + 1 ∧ p + k < j ∧ j ≤ s then ro (r0 + 1) (j - 1) else ro b j) → wG d 61 (30, [.ref r0, .int (nI p), .int x2, .int (nI (p + k))], [], mkH E r) Q = Q none (mkH E (uI (fR ro (r0 + 1) (s + 1) (fun j => if j < p then ro (r0 + 1) j else if j = p then x2 else ro (r0 + 1) (j - 1))) r0 1 (nI (s + 1)))) := by
    intro k
    induction k with
    | zero =>
      intro r hk hr
      refine (lp_X4_insert_30 s_E h0 (fun h => absurd h (nI_nlt (Nat.le_refl _) (by omega))) (fun h => absurd h (nI_nlt (Nat.le_refl _) (by omega))) (fun _ => ⟨nI_pos (by omega), by rw [nI_clamp (by omega)]; omega⟩)).trans ?_
      rw [if_neg (nI_nlt (Nat.le_refl _) (by omega)), nI_clamp (by omega)]
      congr 2
      have e1 : uI r (r0 + 1) p x2 r0 1 = nI s := by
        rw [uI_at, if_neg (by omega), hr, if_neg (by omega), hs.1]
      rw [e1, ← nI_succ]
      funext b j
      simp only [uI_at, fR, hr]
      by_cases h1 : b = r0 ∧ j = 1
      · simp [h1]
      · rw [if_neg h1, if_neg h1]
        by_cases h2 : b = r0 + 1
        · subst h2
          by_cases h3 : j = p
          · subst h3
            simp [show j < s + 1 from by omega]
          · by_cases h4 : p < j
            · by_cases h5 : j ≤ s
              · simp [h3, h4, h5, show j < s + 1 from by omega, show ¬ j < p from by omega]
              · simp [h3, h4, h5, show ¬ j < s + 1 from by omega]
            · simp [h3, h4, show j < s + 1 from by omega, show j < p from by omega]
        · simp [h2]
    | succ k ih =>
      intro r hk hr
      refine (lp_X4_insert_30 s_E h0 (fun _ => ?_) (fun _ => ?_) (fun h => absurd (nI_lt (show p < p + (k + 1) from by omega) (by omega)) h)).trans ?_
      · rw [← Nat.add_assoc, nI_pred, nI_clamp (by omega)]
        exact ⟨nI_pos (by omega), by omega⟩
      · rw [nI_clamp (by omega)]
        exact ⟨nI_pos (by omega), by omega⟩
      · rw [if_pos (nI_lt (by omega) (by omega)), nI_clamp (by omega)]
        have e1 : nI (p + (k + 1)) + (-1) = nI (p + k) := by
          rw [← Int32.sub_eq_add_neg, ← Nat.add_assoc, nI_pred]
        rw [e1, ← Nat.add_assoc, nI_pred, nI_clamp (by omega)]
        refine ih _ (by omega) (fun b j => ?_)
        rw [uI_at, hr, hr]
        by_cases h2 : b = r0 + 1
        · subst h2
          by_cases h3 : j = p + k + 1
          · subst h3
            simp [show p + k + 1 ≤ s from by omega]
            try (intros; omega)
          · by_cases h4 : p + k < j ∧ j ≤ s
            · simp [h3, h4, show p + (k + 1) < j from by omega]
            · by_cases h5 : p + (k + 1) < j ∧ j ≤ s
              · omega
              · simp only [true_and, if_neg h4, if_neg h5, if_neg h3]
        · simp [h2]
  obtain ⟨k, rfl⟩ : ∃ k, s = p + k := ⟨s - p, by omega⟩
  refine key k ro (Nat.le_refl _) (fun b j => ?_)
  rw [if_neg (by omega)]
theorem x_X4_removeAt {d : Nat} {E : pEv} {ro : Nat → Nat → Int32} {Q : Option Value → pH → Prop} (s_E : oE E) {r0 c_h0 : Nat} (h0 : oRow r0 c_h0) {p s : Nat} (hs : rK ro r0 c_h0 (s + 1)) (hp : p ≤ s) : wX (d + 1) 62 [.ref r0, .int (nI p)] (mkH E ro) Q = Q none (mkH E (uI (fR ro (r0 + 1) s (fun j => if j < p then ro (r0 + 1) j else ro (r0 + 1) (j + 1))) r0 1 (nI s))) := by
  have hc := hs.2
  refine (le_X4_removeAt s_E h0).trans ?_
  rw [if_neg (nI_pos (by omega)), hs.1, if_pos (nI_lt (by omega) (by omega)), if_neg (show ¬ Int32.ofNat c_h0 < nI (s + 1) from nI_nlt (by omega) (by omega))]
  have key : ∀ k i r, i + k = s → p ≤ i → (∀ b j, r b j = if b = r0 + 1 ∧ p ≤ j ∧ j < i then ro (r0 + 1) (j + 1) else ro b j) → wG d 62 (27, [.ref r0, .int (nI p), .int (nI i)], [], mkH E r) Q = Q none (mkH E (uI (fR ro (r0 + 1) s (fun j => if j < p then ro (r0 + 1) j else ro (r0 + 1) (j + 1))) r0 1 (nI s))) := by
    intro k
    induction k with
    | zero =>
      intro i r hk hi hr
      obtain rfl : i = s := by omega
      have e0 : r r0 1 = nI (i + 1) := by rw [hr, if_neg (by omega), hs.1]
      have e1 : r r0 1 - 1 = nI i := by rw [e0, nI_pred]
      refine (lp_X4_removeAt_27 s_E h0 (fun h => ?_) (fun h => ?_)).trans ?_
      · rw [e1] at h; exact absurd h (nI_nlt (Nat.le_refl _) (by omega))
      · rw [e1] at h; exact absurd h (nI_nlt (Nat.le_refl _) (by omega))
      rw [e1, if_neg (nI_nlt (Nat.le_refl _) (by omega))]
      congr 2
      funext b j
      simp only [uI_at, fR, hr]
      by_cases h1 : b = r0 ∧ j = 1
      · simp [h1]
      · rw [if_neg h1, if_neg h1]
        by_cases h2 : b = r0 + 1
        · subst h2
          by_cases h3 : j < i
          · by_cases h4 : p ≤ j
            · simp [h3, h4, show ¬ j < p from by omega]
            · simp [h3, h4, show j < p from by omega]
          · simp [h3]
        · simp [h2]
    | succ k ih =>
      intro i r hk hi hr
      have e0 : r r0 1 = nI (s + 1) := by rw [hr, if_neg (by omega), hs.1]
      have e1 : r r0 1 - 1 = nI s := by rw [e0, nI_pred]
      refine (lp_X4_removeAt_27 s_E h0 (fun _ => ?_) (fun _ => ?_)).trans ?_
      · rw [← nI_succ, nI_clamp (by omega)]
        exact ⟨nI_pos (by omega), by omega⟩
      · rw [nI_clamp (by omega)]
        exact ⟨nI_pos (by omega), by omega⟩
      · rw [e1, if_pos (nI_lt (by omega) (by omega)), ← nI_succ, nI_clamp (by omega), nI_clamp (by omega)]
        refine ih (i + 1) _ (by omega) (by omega) (fun b j => ?_)
        rw [uI_at, hr, hr]
        by_cases h2 : b = r0 + 1
        · subst h2
          by_cases h3 : j = i
          · subst h3
            simp [hi]
            try (intros; omega)
          · by_cases h4 : p ≤ j ∧ j < i
            · simp [h3, h4, show j < i + 1 from by omega]
            · by_cases h5 : p ≤ j ∧ j < i + 1
              · omega
              · simp only [true_and, if_neg h4, if_neg h5, if_neg h3]
        · simp [h2]
  refine key (s - p) p ro (by omega) (Nat.le_refl _) (fun b j => ?_)
  rw [if_neg (by omega)]
theorem cd_sub {s i : Nat} (h : i < s) (hs : s < 2 ^ 31) : nI s - 1 - nI i = nI (s - 1 - i) := by
  obtain ⟨k, rfl⟩ : ∃ k, s = i + k + 1 := ⟨s - i - 1, by omega⟩
  rw [nI_pred, show i + k + 1 - 1 - i = k from by omega, show i + k = k + i from by omega, ← nI_add, Int32.add_sub_cancel]
theorem half {s : Nat} (hs : s < 1000) : nI s / 2 = nI (s / 2) := by
  have : ∀ s, s < 1000 → nI s / 2 = nI (s / 2) := by decide +kernel
  exact this s hs
theorem x_X4_reverse {d : Nat} {E : pEv} {ro : Nat → Nat → Int32} {Q : Option Value → pH → Prop} (s_E : oE E) {r0 c_h0 : Nat} (h0 : oRow r0 c_h0) {s : Nat} (hs : rK ro r0 c_h0 s) : wX (d + 3) 65 [.ref r0] (mkH E ro) Q = Q none (mkH E (fR ro (r0 + 1) s (fun j => ro (r0 + 1) (s - 1 - j)))) := by
  have hc := hs.2
  refine (le_X4_reverse s_E h0).trans ?_
  have key : ∀ k i r, i + k = s / 2 → (∀ b j, r b j = if b = r0 + 1 ∧ (j < i ∨ s - i ≤ j ∧ j < s) then ro (r0 + 1) (s - 1 - j) else ro b j) → wG (d + 2) 65 (2, [.ref r0, .int (nI i)], [], mkH E r) Q = Q none (mkH E (fR ro (r0 + 1) s (fun j => ro (r0 + 1) (s - 1 - j)))) := by
    intro k
    induction k with
    | zero =>
      intro i r hk hr
      have hr0 : r r0 1 = nI s := by rw [hr, if_neg (by omega), hs.1]
      rw [lp_X4_reverse_2 s_E h0, hr0, half (by omega), if_neg (nI_nlt (by omega) (by omega))]
      congr 2
      funext b j
      rw [hr]
      unfold fR
      by_cases h2 : b = r0 + 1
      · subst h2
        by_cases h3 : j < s
        · by_cases h4 : j < i ∨ s - i ≤ j
          · rw [if_pos ⟨rfl, by omega⟩, if_pos ⟨rfl, h3⟩]
          · rw [if_neg (by omega), if_pos ⟨rfl, h3⟩]
            congr 1
            omega
        · rw [if_neg (by omega), if_neg (by omega)]
      · rw [if_neg (by omega), if_neg (by omega)]
    | succ k ih =>
      intro i r hk hr
      have hr0 : rK r r0 c_h0 s := ⟨by rw [hr, if_neg (by omega), hs.1], hs.2⟩
      have h1 : i < s := by omega
      have h2 : s - 1 - i < s := by omega
      rw [lp_X4_reverse_2 s_E h0, hr0.1, half (by omega), if_pos (nI_lt (by omega) (by omega)), ← nI_succ, cd_sub h1 (by omega)]
      unfold g_X4_swap
      rw [at_in hr0 h1, at_in hr0 h2, change_in hr0 h1, change_in (rK_u hr0 (by omega)) h2]
      refine ih (i + 1) _ (by omega) (fun b j => ?_)
      simp only [uI_at, hr]
      by_cases hb : b = r0 + 1
      · subst hb
        by_cases h3 : j = i
        · subst h3
          rw [if_neg (by omega), if_pos ⟨rfl, rfl⟩, if_neg (by omega), if_pos ⟨rfl, by omega⟩]
        · by_cases h4 : j = s - 1 - i
          · subst h4
            rw [if_pos ⟨rfl, rfl⟩, if_neg (by omega), if_pos ⟨rfl, by omega⟩]
            congr 1
            omega
          · rw [if_neg (by omega), if_neg (by omega)]
            by_cases h5 : j < i ∨ s - i ≤ j ∧ j < s
            · rw [if_pos ⟨rfl, h5⟩, if_pos ⟨rfl, by omega⟩]
            · rw [if_neg (by omega), if_neg (by omega)]
      · rw [if_neg (by omega), if_neg (by omega), if_neg (by omega), if_neg (by omega)]
  refine key (s / 2) 0 ro (by omega) (fun b j => ?_)
  rw [if_neg (by omega)]
/-! kinds -/
def aK (k : Nat) : Int32 := [-1, 0, 0, 0, 1, 2, 3].getD k (-1)
theorem above_in {E : pEv} {k : Nat} (h : k < 7) : f_X9_aboveOf E (nI k) = aK k := by
  have : ∀ k, k < 7 → f_X9_aboveOf (0, fun _ => 0, fun _ _ => none) (nI k) = aK k := by decide +kernel
  exact this k h
def uK (k u : Nat) : Int32 := if ([[0], [0, 1], [0, 2], [0, 3], [0, 1, 4], [0, 2, 5], [0, 3, 6]].getD k []).contains u then 1 else 0
def vK (E : pEv) (x1 : Int32) (x : Int32) : Int32 := itx (fun _ a => decide (a < 0) || a == x1) (fun _ a => if a < 0 then 0 else 1) (fun _ a => f_X9_aboveOf E a) (fun _ => 0) 7 0 x
theorem vK_t {E : pEv} {k u : Nat} (hk : k < 7) (hu : u < 7) : vK E (nI u) (nI k) = uK k u := by
  have : ∀ k, k < 7 → ∀ u, u < 7 → vK (0, fun _ => 0, fun _ _ => none) (nI u) (nI k) = uK k u := by decide +kernel
  exact this k hk u hu
theorem x_X9_isUnder0 {d : Nat} {E : pEv} {ro : Nat → Nat → Int32} {Q : Option Value → pH → Prop} (s_E : oE E) {x0 x1 : Int32} : wX (d + 3) 151 [.int x0, .int x1] (mkH E ro) Q = Q (some (.int (vK E x1 x0))) (mkH E ro) := by
  refine (le_X9_isUnder s_E).trans ?_
  exact loop_itx (α := Int32) (P := fun i a => wG (d + 2) 151 (4, [.int x0, .int x1, .int a, .int (nI i)], [], mkH E ro) Q) (R := fun r => Q (some (.int r)) (mkH E ro)) (I := fun _ _ => True) (n := 7)
    (fun i a hi _ => by
      show wG (d + 2) 151 (4, [.int x0, .int x1, .int a, .int (nI i)], [], mkH E ro) Q = _
      rw [lp_X9_isUnder_4 s_E, if_pos (show nI i < (7 : Int32) from @nI_lt i 7 hi (by decide)), ← nI_succ]
      by_cases h : a < 0
      · simp [h]
      · by_cases h2 : a = x1
        · subst h2; simp [h]
        · simp [h, h2])
    (fun _ _ _ _ _ => trivial)
    (fun a _ => by
      show wG (d + 2) 151 (4, [.int x0, .int x1, .int a, .int (nI 7)], [], mkH E ro) Q = _
      rw [lp_X9_isUnder_4 s_E, if_neg (show ¬ nI 7 < (7 : Int32) from @nI_nlt 7 7 (Nat.le_refl _) (by decide))])
    7 0 x0 (by omega) trivial
