/-! the class: the fewest hands -/
def lI (l : Nat) : Int32 := if l = 9 then -1 else nI l
def hwT (t : Th) (a : Nat) (r : Nat → Nat → Int32) : Prop := ∀ g, a ≤ g → g < 2 ^ t.n → ∀ s, s < t.n → bt g s ≠ 0 → t.P s < 4 → r 73 (g * 7 + s) = nI (hh t 8 (t.P s) g s)
section FH
variable {d : Nat} {E : pEv} {r r' : Nat → Nat → Int32} {Q : Option Value → pH → Prop} {t : Th}
def lvl (t : Th) (l : Nat) : Prop := l = 9 ∨ (l < t.n ∧ t.P l < 4)
theorem lI_neg {l : Nat} (ok : tOK t) (h : lvl t l) : (lI l < 0) = (l = 9) := by
  have hn := ok.n
  unfold lI
  rcases h with h | h
  · rw [if_pos h]; exact propext ⟨fun _ => h, fun _ => by decide⟩
  · rw [if_neg (by omega)]
    exact propext ⟨fun q => absurd q (nI_pos (by omega)), fun q => by omega⟩
theorem bt_s : ∀ g, g < 128 → ∀ s, s < 7 → bt (g ||| 1 <<< s) s ≠ 0 := by decide +kernel
theorem hb_t (ok : tOK t) (hC : tC t r) (hz : czz r) {g s l : Nat} (hg : g < 2 ^ t.n) (hT : hwT t (g + 1) r) (hs : s < t.n) (hb : bt g s = 0) (hP : t.P s < 4) (hl : lvl t l) : f_X0_handsBy r (nI g) (lI l) (nI s) = nI (mv t l s + hh t 8 (t.P s) (g ||| 1 <<< s) s) := by
  have hn := ok.n
  have h2n := p128 ok
  have h7 : s < 7 := by omega
  obtain ⟨b1, b2, b3⟩ := bcF t.n (by omega) g hg s hs hb
  have eat : f_X4_at r 72 896 (((nI g ||| ((1 : Int32) <<< (nI s &&& 31))) * 7) + nI s) = nI (hh t 8 (t.P s) (g ||| 1 <<< s) s) := by
    rw [sh31 (by omega), show (1 : Int32) = nI 1 from rfl, nI_shl (by omega), ← nI_or, i7 _ (by omega) s (by omega), at_in (s := 896) ⟨hz.2.2.2.1, by decide, by decide⟩ (by omega)]
    exact hT _ (by omega) b2 s hs (bt_s g (by omega) s h7) hP
  unfold f_X0_handsBy
  rw [eat]
  have hneg := lI_neg ok hl
  simp only [hneg]
  unfold mv
  by_cases q9 : l = 9
  · rw [if_pos q9, if_pos q9, show (0 : Int32) = nI 0 from rfl, nI_add]
  · rw [if_neg q9, if_neg q9]
    have hl2 := hl.resolve_left q9
    have eL : lI l = nI l := by unfold lI; rw [if_neg q9]
    rw [eL, sc_at (show l < 7 by omega), sc_at h7]
    have e1 : f_X5_endsAt r (13 + l) (r 11 8) = nI (en t l) := by
      unfold f_X5_endsAt en
      rw [hC.b, hC.F l hl2.1 hl2.2, hC.G l hl2.1 hl2.2]
      have hbb := ok.b
      have e : (nI t.b = 1) = (t.b = 1) := propext (nI_eq (b := 1) (by omega) (by decide))
      simp only [e]
      split <;> rfl
    have e2 : f_X5_beginsAt r (13 + s) (r 11 8) = nI (bg t s) := by
      unfold f_X5_beginsAt bg
      rw [hC.b, hC.F s hs hP, hC.G s hs hP]
      have hbb := ok.b
      have e : (nI t.b = 1) = (t.b = 1) := propext (nI_eq (b := 1) (by omega) (by decide))
      simp only [e]
      split <;> rfl
    rw [e1, e2]
    have h4 := en_le ok hl2.1 hl2.2
    have h5 := en_le ok hs hP
    have e : (nI (en t l) = nI (bg t s)) = (en t l = bg t s) := propext (nI_eq (by omega) (by omega))
    simp only [e]
    by_cases q : en t l = bg t s
    · rw [if_pos q, if_pos q, show f_X9_truth 0 = nI 0 from by decide, nI_add]
    · rw [if_neg q, if_neg q, show f_X9_truth 1 = nI 1 from by decide, nI_add]
theorem x_fewestAfter (s_E : oE E) (ok : tOK t) (hC : tC t r) (hz : czz r) {m g p l : Nat} (hg : Ig t.n m g) (hT : hwT t (g + 1) r) (hp : p < 4) (hl : lvl t l) : wX (d + 3) 12 [.ref 65, .int (nI p), .int (nI g), .int (lI l)] (mkH E r) Q = Q (some (.int (nI (hh t 8 p g l)))) (mkH E r) := by
  have hn := ok.n
  have h2n := p128 ok
  have hg128 : g < 128 := by have := hg.1; omega
  rw [hh_fix ok hg]
  refine (en_X0_fewestAfter (d := d + 2) s_E).trans ?_
  have key : ∀ k s a, s + k = t.n → a ≤ 99 → wG (d + 2) 12 (7, [.ref 65, .int (nI p), .int (nI g), .int (lI l), .int (nI a), .int (nI s)], [], mkH E r) Q = Q (some (.int (nI (if it (fun s a => if (decide (bt g s = 0) && decide (t.P s = p)) = true then (if mv t l s + hh t 8 p (g ||| 1 <<< s) s < a then mv t l s + hh t 8 p (g ||| 1 <<< s) s else a) else a) k s a = 99 then 0 else it (fun s a => if (decide (bt g s = 0) && decide (t.P s = p)) = true then (if mv t l s + hh t 8 p (g ||| 1 <<< s) s < a then mv t l s + hh t 8 p (g ||| 1 <<< s) s else a) else a) k s a)))) (mkH E r) := by
    intro k
    induction k with
    | zero =>
      intro s a hk ha
      refine (sg_X0_fewestAfter_7 (d := d + 2) s_E).trans ?_
      rw [hC.n, if_neg (nI_nlt (by omega) (by omega))]
      have e : (nI a = 99) = (a = 99) := propext (nI_eq (b := 99) (by omega) (by decide))
      simp only [e]
      show _ = Q (some (.int (nI (if a = 99 then 0 else a)))) (mkH E r)
      split <;> rfl
    | succ k ih =>
      intro s a hk ha
      have hs : s < t.n := by omega
      have h7 : s < 7 := by omega
      have hPs := ok.P s hs
      refine (sg_X0_fewestAfter_7 (d := d + 2) s_E).trans ?_
      rw [hC.n, if_pos (nI_lt hs (by omega))]
      refine (x_X0_has (d := d + 1) s_E).trans ?_
      rw [has_t hg128 h7]
      refine (sg_X0_fewestAfter_25 (d := d + 2) s_E).trans ?_
      show _ = Q (some (.int (nI (if it _ k (s + 1) (if (decide (bt g s = 0) && decide (t.P s = p)) = true then _ else a) = 99 then 0 else it _ k (s + 1) (if (decide (bt g s = 0) && decide (t.P s = p)) = true then _ else a))))) (mkH E r)
      by_cases hb : bt g s = 0
      · rw [if_pos hb, if_pos rfl]
        refine (x_X2_at (d := d + 1) s_E oP11).trans ?_
        rw [sc_at h7]
        refine (sg_X0_fewestAfter_37 (d := d + 2) s_E (oS11 h7)).trans ?_
        rw [hC.P s hs]
        have e : (nI (t.P s) = nI p) = (t.P s = p) := propext (nI_eq (by omega) (by omega))
        simp only [e]
        by_cases hpp : t.P s = p
        · have c : (decide (bt g s = 0) && decide (t.P s = p)) = true := by simp [hb, hpp]
          rw [if_pos hpp, if_pos c]
          refine (x_X0_handsBy (d := d) s_E).trans ?_
          rw [hb_t ok hC hz hg.1 hT hs hb (by omega) hl, hpp]
          refine (sg_X0_fewestAfter_54 (d := d + 2) s_E).trans ?_
          have b1 := hh_le (t := t) 8 (by decide) p (g ||| 1 <<< s) s
          have b2 := @mv_le t l s
          have e2 : (if nI (mv t l s + hh t 8 p (g ||| 1 <<< s) s) < nI a then nI (mv t l s + hh t 8 p (g ||| 1 <<< s) s) else nI a) = nI (if mv t l s + hh t 8 p (g ||| 1 <<< s) s < a then mv t l s + hh t 8 p (g ||| 1 <<< s) s else a) := by
            have e : (nI (mv t l s + hh t 8 p (g ||| 1 <<< s) s) < nI a) = (mv t l s + hh t 8 p (g ||| 1 <<< s) s < a) := propext (nI_ltI (by omega) (by omega))
            simp only [e]
            split <;> rfl
          rw [e2, ← nI_succ]
          exact ih (s + 1) _ (by omega) (by split <;> omega)
        · have c : ¬ (decide (bt g s = 0) && decide (t.P s = p)) = true := by simp [hpp]
          rw [if_neg hpp, if_neg c, ← nI_succ]
          exact ih (s + 1) a (by omega) ha
      · have c : ¬ (decide (bt g s = 0) && decide (t.P s = p)) = true := by simp [hb]
        rw [if_neg hb, if_neg (by decide), if_neg c, ← nI_succ]
        exact ih (s + 1) a (by omega) ha
  exact key t.n 0 99 (by omega) (by omega)
def p73 : Nat → Nat → Prop := fun a _ => a = 73
theorem p73S (s : sE p73 r r') : sE SC r r' := sE_mo s (fun a k h => by unfold p73 at h; unfold SC; omega)
theorem x_weighHands (s_E : oE E) (ok : tOK t) (hC : tC t r) (hz : czz r) : ∃ r', sE p73 r r' ∧ hwT t 0 r' ∧ ∀ Q, wX (d + 5) 11 [.ref 65] (mkH E r) Q = Q none (mkH E r') := by
  have hn := ok.n
  have h2n := p128 ok
  have hpos := Nat.two_pow_pos t.n
  have inner : ∀ g m, Ig t.n m g → ∀ k s r v3, s + k = t.n → tC t r → czz r → hwT t (g + 1) r → (∀ j, j < s → bt g j ≠ 0 → t.P j < 4 → r 73 (g * 7 + j) = nI (hh t 8 (t.P j) g j)) → ∃ r', sE p73 r r' ∧ hwT t g r' ∧ ∃ w3, ∀ Q, wG (d + 4) 11 (14, [.ref 65, .int (nI g), .int (nI s), v3], [], mkH E r) Q = wG (d + 4) 11 (8, [.ref 65, .int (nI g - 1), .int (nI t.n), w3], [], mkH E r') Q := by
    intro g m hg k
    have hg128 : g < 128 := by have := hg.1; omega
    induction k with
    | zero =>
      intro s r v3 hk hC hz hT hJ
      obtain rfl : s = t.n := by omega
      refine ⟨r, sE_rf, fun g' h1 h2 j hj hb hP => ?_, v3, fun Q => ?_⟩
      · by_cases q : g' = g
        · subst q; exact hJ j hj hb hP
        · exact hT g' (by omega) h2 j hj hb hP
      · refine (sg_X0_weighHands_14 (d := d + 4) s_E).trans ?_
        rw [hC.n, if_neg (nI_nlt (Nat.le_refl _) (by omega)), ← Int32.sub_eq_add_neg]
    | succ k ih =>
      intro s r v3 hk hC hz hT hJ
      have hs : s < t.n := by omega
      have h7 : s < 7 := by omega
      have hPs := ok.P s hs
      have pre : ∀ Q, wG (d + 4) 11 (14, [.ref 65, .int (nI g), .int (nI s), v3], [], mkH E r) Q = if bt g s = 0 then wG (d + 4) 11 (14, [.ref 65, .int (nI g), .int (nI (s + 1)), .int (nI (t.P s))], [], mkH E r) Q else if t.P s = 4 then wG (d + 4) 11 (14, [.ref 65, .int (nI g), .int (nI (s + 1)), .int (nI (t.P s))], [], mkH E r) Q else wX (d + 4) 12 [.ref 65, .int (nI (t.P s)), .int (nI g), .int (nI s)] (mkH E r) (fun v h' => wG (d + 4) 11 (67, [.ref 65, .int (nI g), .int (nI s), .int (nI (t.P s))], pv v [.int (nI (g * 7 + s)), .ref 72], h') Q) := by
        intro Q
        refine (sg_X0_weighHands_14 (d := d + 4) s_E).trans ?_
        rw [hC.n, if_pos (nI_lt hs (by omega))]
        refine (x_X2_at (d := d + 3) s_E oP11).trans ?_
        rw [sc_at h7]
        refine (sg_X0_weighHands_33 (d := d + 4) s_E (oS11 h7)).trans ?_
        rw [hC.P s hs]
        refine (x_X0_has (d := d + 3) s_E).trans ?_
        rw [has_t hg128 h7]
        refine (sg_X0_weighHands_42 (d := d + 4) s_E).trans ?_
        have e : (nI (t.P s) = 4) = (t.P s = 4) := propext (nI_eq (b := 4) (by omega) (by decide))
        simp only [e]
        rw [i7 g (by omega) s (by omega), ← nI_succ]
        by_cases hb : bt g s = 0
        · rw [if_pos hb, if_pos rfl, if_pos hb]
        · rw [if_neg hb, if_neg (by decide), if_neg hb]
      by_cases hb : bt g s = 0
      · obtain ⟨r', s1, t1, w3, e1⟩ := ih (s + 1) r (.int (nI (t.P s))) (by omega) hC hz hT (fun j hj h1 h2 => by
          by_cases q : j = s
          · rw [q] at h1; exact absurd hb h1
          · exact hJ j (by omega) h1 h2)
        exact ⟨r', s1, t1, w3, fun Q => by rw [pre, if_pos hb]; exact e1 Q⟩
      · by_cases hP4 : t.P s = 4
        · obtain ⟨r', s1, t1, w3, e1⟩ := ih (s + 1) r (.int (nI (t.P s))) (by omega) hC hz hT (fun j hj h1 h2 => by
            by_cases q : j = s
            · rw [q] at h2; omega
            · exact hJ j (by omega) h1 h2)
          exact ⟨r', s1, t1, w3, fun Q => by rw [pre, if_neg hb, if_pos hP4]; exact e1 Q⟩
        · have hP : t.P s < 4 := by omega
          have s1 : sE p73 r (uI r 73 (g * 7 + s) (nI (hh t 8 (t.P s) g s))) := sE_u rfl
          obtain ⟨r', s2, t2, w3, e2⟩ := ih (s + 1) (uI r 73 (g * 7 + s) (nI (hh t 8 (t.P s) g s))) (.int (nI (t.P s))) (by omega) (tC_s hC hn (p73S s1)) (czz_s hz (p73S s1)) (fun g' h1 h2 j hj h3 h4 => by
            rw [uI_at, if_neg (by omega)]
            exact hT g' h1 h2 j hj h3 h4) (fun j hj h1 h2 => by
            rw [uI_at]
            by_cases q : j = s
            · rw [q, if_pos ⟨rfl, rfl⟩]
            · rw [if_neg (by omega)]
              exact hJ j (by omega) h1 h2)
          refine ⟨r', sE_tr s1 s2, t2, w3, fun Q => ?_⟩
          rw [pre, if_neg hb, if_neg hP4]
          have eL : nI s = lI s := by unfold lI; rw [if_neg (by omega)]
          have := x_fewestAfter (d := d + 1) (Q := fun v h' => wG (d + 4) 11 (67, [.ref 65, .int (nI g), .int (nI s), .int (nI (t.P s))], pv v [.int (nI (g * 7 + s)), .ref 72], h') Q) s_E ok hC hz hg hT hP (Or.inr ⟨hs, hP⟩)
          rw [← eL] at this
          refine this.trans ?_
          refine (sg_X0_weighHands_67 (d := d + 4) s_E).trans ?_
          refine (x_X4_change (d := d + 3) (c_h0 := 896) s_E (oR rfl)).trans ?_
          rw [change_in (s := 896) ⟨hz.2.2.2.1, by decide, by decide⟩ (by omega)]
          refine (sg_X0_weighHands_70 (d := d + 4) s_E).trans ?_
          rw [← nI_succ]
          exact e2 Q
  have outer : ∀ a r v2 v3, a ≤ 2 ^ t.n → tC t r → czz r → hwT t a r → ∃ r', sE p73 r r' ∧ hwT t 0 r' ∧ ∀ Q, wG (d + 4) 11 (8, [.ref 65, .int (nI a - 1), v2, v3], [], mkH E r) Q = Q none (mkH E r') := by
    intro a
    induction a with
    | zero =>
      intro r v2 v3 _ hC hz hT
      refine ⟨r, sE_rf, hT, fun Q => ?_⟩
      refine (sg_X0_weighHands_8 (d := d + 4) s_E).trans ?_
      rw [if_pos (by decide)]
    | succ g ih =>
      intro r v2 v3 ha hC hz hT
      have hbn := bcN t.n (by omega) g (by omega)
      have hg : Ig t.n (t.n - bc g) g := ⟨by omega, by omega⟩
      obtain ⟨r1, s1, t1, w3, e1⟩ := inner g _ hg t.n 0 r v3 (by omega) hC hz hT (fun j hj => absurd hj (Nat.not_lt_zero _))
      obtain ⟨r2, s2, t2, e2⟩ := ih r1 (.int (nI t.n)) w3 (by omega) (tC_s hC hn (p73S s1)) (czz_s hz (p73S s1)) t1
      refine ⟨r2, sE_tr s1 s2, t2, fun Q => ?_⟩
      rw [nI_pred]
      refine (sg_X0_weighHands_8 (d := d + 4) s_E).trans ?_
      rw [if_neg (nI_pos (by omega))]
      refine (e1 Q).trans ?_
      exact e2 Q
  obtain ⟨r', s1, t1, e1⟩ := outer (2 ^ t.n) r (.retAddr 0) (.retAddr 0) (Nat.le_refl _) hC hz (fun g h1 h2 => by omega)
  refine ⟨r', s1, t1, fun Q => ?_⟩
  refine (en_X0_weighHands (d := d + 4) s_E).trans ?_
  refine (x_X2_all (d := d + 3) s_E).trans ?_
  rw [all_C ok hC]
  refine (sg_X0_weighHands_7 (d := d + 4) s_E).trans ?_
  have e : nI (2 ^ t.n - 1) = nI (2 ^ t.n) - 1 := by
    obtain ⟨q, hq⟩ : ∃ q, 2 ^ t.n = q + 1 := ⟨2 ^ t.n - 1, by omega⟩
    rw [hq, nI_pred]
    rfl
  rw [e]
  exact e1 Q
end FH
