/-! the class reads: levels, the innermost, a whole text -/
def rdO (E : pEv) (n lo bs ba : Nat) (cd : List Int32) (r : Nat → Nat → Int32) (W : (Option Value → pH → Prop) → Prop) (x : Nat ⊕ (Nat × List Int32 × Int32)) : Prop := match x with
  | .inl f => f ≤ n ∧ ∃ r', sE rdP r r' ∧ r' 81 2 = nI f ∧ ∀ Q, W Q = Q (some (.int 0)) (mkH E r')
  | .inr y => lo ≤ y.1 ∧ y.1 ≤ n ∧ y.2.1.length + bs ≤ y.1 + ba ∧ ∃ r', sE rdP r r' ∧ rS y.1 (cd ++ y.2.1) r' ∧ ∀ Q, W Q = Q (some (.int 1)) (mkH E r')
theorem rdO_pre {E : pEv} {n lo lo1 bs ba bs1 ba1 : Nat} {cd : List Int32} {r r1 : Nat → Nat → Int32} {W W1 : (Option Value → pH → Prop) → Prop} {x : Nat ⊕ (Nat × List Int32 × Int32)} (h : rdO E n lo1 bs1 ba1 cd r1 W1 x) (hW : ∀ Q, W Q = W1 Q) (hs : sE rdP r r1) (hl : lo ≤ lo1) (hb : bs + ba1 ≤ bs1 + ba) : rdO E n lo bs ba cd r W x := by
  cases x with
  | inl f =>
    obtain ⟨hf, r', s1, e1, q1⟩ := h
    exact ⟨hf, r', sE_tr hs s1, e1, fun Q => (hW Q).trans (q1 Q)⟩
  | inr y =>
    obtain ⟨a1, a2, a3, r', s1, e1, q1⟩ := h
    exact ⟨by omega, a2, by omega, r', sE_tr hs s1, e1, fun Q => (hW Q).trans (q1 Q)⟩
def rdC (E : pEv) (b : Nat → Nat) (n u m : Nat) (as : List Value) (d : Nat) (s : Rd) : Prop := ∀ p cd r, rT b n u r → rS p cd r → p ≤ n → cd.length ≤ p → rdO E n (p + 1) p 0 cd r (wX d m as (mkH E r)) (s p)
def mo (l : Nat) : Nat := if l = 2 then 1 else 50
section RL
variable {d : Nat} {E : pEv} {b : Nat → Nat} {n u p : Nat} {r r' : Nat → Nat → Int32} {Q : Option Value → pH → Prop} {cd : List Int32}
theorem hI_n {c : Nat} (h : c < 256) : hI c = nI c := by unfold hI; rw [if_pos h]
theorem rd_lp (s_E : oE E) {l o D : Nat} {s : Rd} (hl : l < 5) (hs : ∀ d, rdC E b n u 49 [.ref 81, .int (nI (l + 1)), .int (nI o)] (d + D + 2) s) : ∀ k i p c2 v r x5, i + k = mo l → rT b n u r → rS p (cd ++ c2) r → p ≤ n → (cd ++ c2).length ≤ p → rdO E n p p c2.length cd r (wG (d + D + 2) 49 (39, [.ref 81, .int (nI l), .int (nI o), .int (nI (mo l)), .int (nI i), x5], [], mkH E r)) (lpR b n l s k p c2 v) := by
  have hm : mo l ≤ 50 := by unfold mo; split <;> omega
  intro k
  induction k with
  | zero =>
    intro i p c2 v r x5 hi hT hS hp hc
    refine ⟨Nat.le_refl _, hp, by show c2.length + p ≤ p + c2.length; omega, r, sE_rf, hS, fun Q => ?_⟩
    refine (sg_X3_readsLevel_39 (d := d + D + 2) s_E).trans ?_
    rw [if_neg (nI_nlt (by omega) (by omega))]
  | succ k ih =>
    intro i p c2 v r x5 hi hT hS hp hc
    have hcc := rT_c hT p
    have hh := rd_here hT hS.1 hp
    have pre : ∀ Q, wG (d + D + 2) 49 (39, [.ref 81, .int (nI l), .int (nI o), .int (nI (mo l)), .int (nI i), x5], [], mkH E r) Q = wG (d + D + 2) 49 (52, [.ref 81, .int (nI l), .int (nI o), .int (nI (mo l)), .int (nI i), x5], [.int (if lev (hr b n p) = 9 then -1 else nI (lev (hr b n p)))], mkH E r) Q := by
      intro Q
      refine (sg_X3_readsLevel_39 (d := d + D + 2) s_E).trans ?_
      rw [if_pos (nI_lt (by omega) (by omega))]
      refine (x_X3_here (d := d + D) s_E).trans ?_
      rw [hh]
      refine (sg_X3_readsLevel_49 (d := d + D + 2) s_E).trans ?_
      refine (x_X3_levelOf (d := d + D + 1) s_E).trans ?_
      rw [lev_t hcc]
      rfl
    unfold lpR
    by_cases q : lev (hr b n p) = l
    · rw [if_pos q]
      have h9 : hr b n p ≠ 999 := fun e => by rw [e, show lev 999 = 9 from by decide] at q; omega
      have hpn : p < n := hr_lt h9
      have hc6 : hr b n p < 256 := by omega
      have s1 : sE rdP r (uI r 81 2 (r 81 2 + 1)) := sE_u (Or.inl ⟨rfl, rfl⟩)
      have t1 := rS_at hS (nI_succ p).symm
      have h1 := hs d (p + 1) (cd ++ c2) _ (rT_s hT s1) t1 hpn (by omega)
      have pr2 : ∀ Q, wG (d + D + 2) 49 (39, [.ref 81, .int (nI l), .int (nI o), .int (nI (mo l)), .int (nI i), x5], [], mkH E r) Q = wX (d + D + 2) 49 [.ref 81, .int (nI (l + 1)), .int (nI o)] (mkH E (uI r 81 2 (r 81 2 + 1))) (fun v h' => wG (d + D + 2) 49 (80, [.ref 81, .int (nI l), .int (nI o), .int (nI (mo l)), .int (nI i), .int (nI (hr b n p))], pv v [], h') Q) := by
        intro Q
        rw [pre, q, if_neg (show ¬ l = 9 by omega)]
        refine (sg_X3_readsLevel_52 (d := d + D + 2) s_E).trans ?_
        rw [if_pos rfl]
        refine (x_X3_here (d := d + D) s_E).trans ?_
        rw [hh, hI_n hc6]
        refine (sg_X3_readsLevel_60 (d := d + D + 2) s_E).trans ?_
        rw [← nI_succ]
      cases hsp : s (p + 1) with
      | inl f =>
        rw [hsp] at h1
        obtain ⟨hf, r', s2, e2, q2⟩ := h1
        refine ⟨hf, r', sE_tr s1 s2, e2, fun Q => ?_⟩
        rw [pr2, q2]
        refine (sg_X3_readsLevel_80 (d := d + D + 2) s_E).trans ?_
        rw [if_pos rfl]
      | inr y =>
        obtain ⟨q3, cc, w⟩ := y
        rw [hsp] at h1
        obtain ⟨a1, a2, a3, r2, s2, t2, q2⟩ := h1
        have a1 : p + 1 + 1 ≤ q3 := a1
        have a2 : q3 ≤ n := a2
        have a3 : cc.length + (p + 1) ≤ q3 + 0 := a3
        have h50 := hT.2.2.1
        have hlen : (cd ++ c2).length ≤ p := hc
        simp only [List.length_append] at hlen
        obtain ⟨r3, e3, s3, t3⟩ := rS_add (v := -nI (hr b n p)) t2 (by simp only [List.length_append]; omega)
        have e4 : cd ++ c2 ++ cc ++ [-nI (hr b n p)] = cd ++ (c2 ++ cc ++ [-nI (hr b n p)]) := by simp only [List.append_assoc]
        rw [e4] at t3
        have hlen2 : (c2 ++ cc ++ [-nI (hr b n p)]).length = c2.length + cc.length + 1 := by rw [List.length_append, List.length_append]; rfl
        refine rdO_pre (ih (i + 1) q3 _ (f_X1_joined (nI (hr b n p)) v w) r3 (.int (nI (hr b n p))) (by omega) (rT_s hT (sE_tr s1 (sE_tr s2 s3))) t3 a2 (by rw [List.length_append, hlen2]; omega)) (fun Q => ?_) (sE_tr s1 (sE_tr s2 s3)) (by omega) (by omega)
        rw [pr2, q2]
        refine (sg_X3_readsLevel_80 (d := d + D + 2) s_E).trans ?_
        rw [if_neg (by decide)]
        refine (x_X4_add (d := d + D + 1) (c_h0 := 50) s_E (oR rfl)).trans ?_
        rw [e3]
        refine (sg_X3_readsLevel_95 (d := d + D + 2) s_E).trans ?_
        rw [← nI_succ]
    · rw [if_neg q]
      refine ⟨Nat.le_refl _, hp, by show c2.length + p ≤ p + c2.length; omega, r, sE_rf, hS, fun Q => ?_⟩
      rw [pre]
      refine (sg_X3_readsLevel_52 (d := d + D + 2) s_E).trans ?_
      rw [if_neg]
      have hll : ∀ c, c < 256 → lev c < 10 := by decide +kernel
      intro e
      by_cases q9 : lev (hr b n p) = 9
      · rw [if_pos q9] at e
        have : ∀ l, l < 5 → ¬ (-1 : Int32) = nI l := by decide
        exact this l hl e
      · rw [if_neg q9] at e
        have hl10 : lev (hr b n p) < 10 := by
          rcases hcc with h | h
          · exact hll _ h
          · rw [h]; decide
        exact q ((nI_eq (by omega) (by omega)).mp e)
theorem rd_lv (s_E : oE E) {l o D : Nat} {s : Rd} (hl : l < 5) (hs : ∀ d, rdC E b n u 49 [.ref 81, .int (nI (l + 1)), .int (nI o)] (d + D + 2) s) : ∀ d, rdC E b n u 49 [.ref 81, .int (nI l), .int (nI o)] (d + D + 3) (lvR b n l (mo l) s) := by
  intro d p cd r hT hS hp hc
  have h1 := hs d p cd r hT hS hp hc
  have e0 : ∀ Q, wX (d + D + 3) 49 [.ref 81, .int (nI l), .int (nI o)] (mkH E r) Q = wX (d + D + 2) 49 [.ref 81, .int (nI (l + 1)), .int (nI o)] (mkH E r) (fun v h' => wG (d + D + 2) 49 (19, [.ref 81, .int (nI l), .int (nI o), .retAddr 0, .retAddr 0, .retAddr 0], pv v [], h') Q) := fun Q => by
    refine (en_X3_readsLevel (d := d + D + 2) s_E).trans ?_
    rw [if_pos (show nI l < (5 : Int32) from @nI_lt l 5 hl (by decide)), ← nI_succ]
  unfold lvR
  cases hsp : s p with
  | inl f =>
    rw [hsp] at h1
    obtain ⟨hf, r', s1, e1, q1⟩ := h1
    refine ⟨hf, r', s1, e1, fun Q => ?_⟩
    rw [e0, q1]
    refine (sg_X3_readsLevel_19 (d := d + D + 2) s_E).trans ?_
    rw [if_pos rfl]
  | inr y =>
    obtain ⟨q, c2, v⟩ := y
    rw [hsp] at h1
    obtain ⟨a1, a2, a3, r1, s1, t1, q1⟩ := h1
    have a1 : p + 1 ≤ q := a1
    have a3 : c2.length + p ≤ q + 0 := a3
    refine rdO_pre (rd_lp (d := d) s_E hl hs (mo l) 0 q c2 v r1 (.retAddr 0) (by omega) (rT_s hT s1) t1 a2 (by rw [List.length_append]; show _ ≤ q; omega)) (fun Q => ?_) s1 a1 (by omega)
    rw [e0, q1]
    refine (sg_X3_readsLevel_19 (d := d + D + 2) s_E).trans ?_
    rw [if_neg (by decide)]
    have e2 : (nI l = 2) = (l = 2) := propext (nI_eq (b := 2) (by omega) (by decide))
    simp only [e2]
    unfold mo
    by_cases h2 : l = 2
    · rw [if_pos h2, if_pos h2]
      rfl
    · rw [if_neg h2, if_neg h2]
      rfl
theorem rd_5 (s_E : oE E) {o D : Nat} {s : Rd} (hs : ∀ d, rdC E b n u 50 [.ref 81, .int (nI o)] (d + D) s) : ∀ d, rdC E b n u 49 [.ref 81, .int (nI 5), .int (nI o)] (d + D + 1) s := by
  intro d p cd r hT hS hp hc
  refine rdO_pre (W := wX (d + D + 1) 49 [.ref 81, .int (nI 5), .int (nI o)] (mkH E r)) (W1 := fun Q => wX (d + D) 50 [.ref 81, .int (nI o)] (mkH E r) (fun v h' => wG (d + D) 49 (10, [.ref 81, .int (nI 5), .int (nI o), .retAddr 0, .retAddr 0, .retAddr 0], pv v [], h') Q)) (bs1 := p) (ba1 := 0) ?_ (fun Q => ?_) sE_rf (Nat.le_refl _) (Nat.le_refl _)
  · have h1 := hs d p cd r hT hS hp hc
    cases hsp : s p with
    | inl f =>
      rw [hsp] at h1
      obtain ⟨hf, r', s1, e1, q1⟩ := h1
      refine ⟨hf, r', s1, e1, fun Q => ?_⟩
      show wX (d + D) 50 [.ref 81, .int (nI o)] (mkH E r) _ = _
      rw [q1]
      exact sg_X3_readsLevel_10 (d := d + D) s_E rfl
    | inr y =>
      rw [hsp] at h1
      obtain ⟨a1, a2, a3, r1, s1, t1, q1⟩ := h1
      refine ⟨a1, a2, a3, r1, s1, t1, fun Q => ?_⟩
      show wX (d + D) 50 [.ref 81, .int (nI o)] (mkH E r) _ = _
      rw [q1]
      exact sg_X3_readsLevel_10 (d := d + D) s_E rfl
  · refine (en_X3_readsLevel (d := d + D) s_E).trans ?_
    rw [if_neg (by decide)]
theorem rd_tt (s_E : oE E) {o D : Nat} {s : Rd} (hs : ∀ d, rdC E b n u 50 [.ref 81, .int (nI o)] (d + D + 1) s) : ∀ d, rdC E b n u 49 [.ref 81, .int 0, .int (nI o)] (d + D + 7) (ttR b n s) := by
  have h5 := rd_5 s_E (D := D + 1) hs
  have h4 := rd_lv (D := D) (l := 4) s_E (by decide) h5
  have h3 := rd_lv (D := D + 1) (l := 3) s_E (by decide) h4
  have h2 := rd_lv (D := D + 2) (l := 2) s_E (by decide) h3
  have h1 := rd_lv (D := D + 3) (l := 1) s_E (by decide) h2
  exact rd_lv (D := D + 4) (l := 0) s_E (by decide) h1
end RL
