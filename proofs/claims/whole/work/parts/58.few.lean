section FN
variable {d : Nat} {E : pEv} {r r' : Nat → Nat → Int32} {Q : Option Value → pH → Prop} {t : Th}
def laT (a : Nat → Nat) (r : Nat → Nat → Int32) : Prop := r 74 1 = nI 4 ∧ ∀ p, p < 4 → r 75 p = lI (a p)
theorem lok_v {a : Nat → Nat} (h : lok t a) {p : Nat} (hp : p < 4) : lvl t (a p) := by
  rcases h p hp with h | h
  · exact Or.inl h
  · exact Or.inr ⟨h.1, by rw [h.2]; exact hp⟩
theorem x_handiest (s_E : oE E) (ok : tOK t) (hC : tC t r) (hz : czz r) (hT : hwT t 0 r) {m : Nat} {a : Sh} (ha : Ih t (m + 1) a) (hl : laT a.2 r) : wX (d + 5) 14 [.ref 65, .int (nI a.1)] (mkH E r) Q = Q (some (.int (nI (s0H t a)))) (mkH E r) := by
  have hn := ok.n
  have h2n := p128 ok
  have hg128 : a.1 < 128 := by have := ha.1.1; omega
  have hT1 : hwT t (a.1 + 1) r := fun g h1 h2 => hT g (Nat.zero_le _) h2
  refine (en_X0_handiestNext (d := d + 4) s_E).trans ?_
  have key : ∀ k s v3 v4, s + k = t.n → wG (d + 4) 14 (2, [.ref 65, .int (nI a.1), .int (nI s), v3, v4], [], mkH E r) Q = Q (some (.int (nI (sFi (fun s => decide (bt a.1 s = 0) && (decide (t.P s = 4) || decide (mv t (a.2 (t.P s)) s + hh t 8 (t.P s) (a.1 ||| 1 <<< s) s = hh t 8 (t.P s) a.1 (a.2 (t.P s))))) k s)))) (mkH E r) := by
    intro k
    induction k with
    | zero =>
      intro s v3 v4 hk
      refine (sg_X0_handiestNext_2 (d := d + 4) s_E).trans ?_
      rw [hC.n, if_neg (nI_nlt (by omega) (by omega))]
      rfl
    | succ k ih =>
      intro s v3 v4 hk
      have hs : s < t.n := by omega
      have h7 : s < 7 := by omega
      have hPs := ok.P s hs
      refine (sg_X0_handiestNext_2 (d := d + 4) s_E).trans ?_
      rw [hC.n, if_pos (nI_lt hs (by omega))]
      refine (x_X0_has (d := d + 3) s_E).trans ?_
      rw [has_t hg128 h7]
      refine (sg_X0_handiestNext_18 (d := d + 4) s_E).trans ?_
      unfold sFi
      by_cases hb : bt a.1 s = 0
      · rw [if_pos hb, if_pos rfl]
        refine (x_X2_at (d := d + 3) s_E oP11).trans ?_
        rw [sc_at h7]
        refine (sg_X0_handiestNext_29 (d := d + 4) s_E (oS11 h7)).trans ?_
        rw [hC.P s hs]
        refine (x_X4_at (d := d + 3) (c_h0 := 4) s_E (oR rfl)).trans ?_
        refine (sg_X0_handiestNext_41 (d := d + 4) s_E).trans ?_
        have e : (nI (t.P s) = 4) = (t.P s = 4) := propext (nI_eq (b := 4) (by omega) (by decide))
        simp only [e]
        by_cases hP4 : t.P s = 4
        · rw [if_pos hP4, if_pos (by simp [hb, hP4])]
        · have hP : t.P s < 4 := by omega
          rw [if_neg hP4, at_in (s := 4) ⟨hl.1, by decide, by decide⟩ hP, hl.2 _ hP]
          refine (x_X0_handsBy (d := d + 2) s_E).trans ?_
          rw [hb_t ok hC hz ha.1.1 hT1 hs hb hP (lok_v ha.2 hP)]
          refine (sg_X0_handiestNext_56 (d := d + 4) s_E).trans ?_
          refine (x_fewestAfter (d := d + 1) s_E ok hC hz ha.1 hT1 hP (lok_v ha.2 hP)).trans ?_
          refine (sg_X0_handiestNext_64 (d := d + 4) s_E).trans ?_
          have b1 := hh_le (t := t) 8 (by decide) (t.P s) (a.1 ||| 1 <<< s) s
          have b2 := hh_le (t := t) 8 (by decide) (t.P s) a.1 (a.2 (t.P s))
          have b3 := @mv_le t (a.2 (t.P s)) s
          have e2 : (nI (mv t (a.2 (t.P s)) s + hh t 8 (t.P s) (a.1 ||| 1 <<< s) s) = nI (hh t 8 (t.P s) a.1 (a.2 (t.P s)))) = (mv t (a.2 (t.P s)) s + hh t 8 (t.P s) (a.1 ||| 1 <<< s) s = hh t 8 (t.P s) a.1 (a.2 (t.P s))) := propext (nI_eq (by omega) (by omega))
          simp only [e2]
          by_cases q : mv t (a.2 (t.P s)) s + hh t 8 (t.P s) (a.1 ||| 1 <<< s) s = hh t 8 (t.P s) a.1 (a.2 (t.P s))
          · rw [if_pos q, if_pos (by simp [hb, q])]
          · rw [if_neg q, if_neg (by simp [q, hP4]), ← nI_succ]
            exact ih (s + 1) _ _ (by omega)
      · rw [if_neg hb, if_neg (by decide), if_neg (by simp [hb]), ← nI_succ]
        exact ih (s + 1) _ _ (by omega)
  exact key t.n 0 _ _ (by omega)
theorem change_out {ro : Nat → Nat → Int32} {r c s i : Nat} {v : Int32} (h : rK ro r c s) (hi : s ≤ i) (hl : i < 2 ^ 31) : g_X4_change ro r c (nI i) v = ro := by
  obtain ⟨h1, h2, h3⟩ := h
  unfold g_X4_change
  rw [if_neg (nI_pos (by omega)), h1, if_neg (nI_nlt hi (by omega))]
def pFH : Nat → Nat → Prop := fun a k => (a = 76 ∧ k = 1) ∨ a = 77 ∨ a = 75
theorem pFHS (s : sE pFH r r') : sE SC r r' := sE_mo s (fun a k h => by unfold pFH at h; unfold SC; omega)
theorem hwT_s {a : Nat} (h : hwT t a r) (s : sE pFH r r') : hwT t a r' := fun g h1 h2 j hj h3 h4 => by
  rw [s _ _ (by unfold pFH; omega)]
  exact h g h1 h2 j hj h3 h4
theorem x_findFewest (s_E : oE E) (ok : tOK t) (hC : tC t r) (hz : czz r) : ∃ r', sE SC r r' ∧ r' 76 1 = nI t.n ∧ (∀ j, j < t.n → r' 77 j = nI (gl (grd (nxh t) (s0H t) t.n (0, fun _ => 9)) j)) ∧ ∀ Q, wX (d + 7) 10 [.ref 65] (mkH E r) Q = Q (some (.int (nI (vH t (0, fun _ => 9))))) (mkH E r') := by
  have hn := ok.n
  have h2n := p128 ok
  obtain ⟨r1, s1, t1, e1⟩ := x_weighHands (d := d + 1) s_E ok hC hz
  have hC1 := tC_s hC hn (p73S s1)
  have hz1 := czz_s hz (p73S s1)
  have s2 : sE pFH r1 (fR r1 75 4 (fun _ => -1)) := fun a k q => by rw [fR_o (show a ≠ 75 by unfold pFH at q; omega)]
  have hC2 := tC_s hC1 hn (pFHS s2)
  have hz2 := czz_s hz1 (pFHS s2)
  have hT2 := hwT_s t1 s2
  have l2 : laT (fun _ => 9) (fR r1 75 4 (fun _ => -1)) := ⟨hz2.2.2.2.2, fun p hp => by rw [fR_at hp]; rfl⟩
  have key : ∀ m i (a : Sh) r v4, i + m = t.n → Ih t m a → tC t r → czz r → hwT t 0 r → laT a.2 r → r 76 1 = nI i → ∃ r', sE pFH r r' ∧ r' 76 1 = nI t.n ∧ (∀ j, j < i → r' 77 j = r 77 j) ∧ (∀ j, j < m → r' 77 (i + j) = nI (gl (grd (nxh t) (s0H t) m a) j)) ∧ ∀ x1 Q, wG (d + 6) 10 (48, [.ref 65, .int x1, .int (nI a.1), .int (nI i), v4], [], mkH E r) Q = Q (some (.int x1)) (mkH E r') := by
    intro m
    induction m with
    | zero =>
      intro i a r v4 hi ha hC hz hT hl h76
      refine ⟨r, sE_rf, by rw [h76, show i = t.n by omega], fun j _ => rfl, fun j hj => absurd hj (Nat.not_lt_zero _), fun x1 Q => ?_⟩
      refine (sg_X0_findFewestHands_48 (d := d + 6) s_E).trans ?_
      rw [hC.n, if_neg (nI_nlt (by omega) (by omega))]
    | succ m ih =>
      intro i a r v4 hi ha hC hz hT hl h76
      obtain ⟨q1, q2, q3, q4⟩ := hHs ok m a ha
      have h7 : s0H t a < 7 := by omega
      have hPs := ok.P _ q1
      have hadd := add_in (ro := r) (r := 76) (c := 7) (s := i) (v := nI (s0H t a)) ⟨h76, by omega, by decide⟩ (by omega)
      have s1 : sE pFH r (uI (uI r 77 i (nI (s0H t a))) 76 1 (nI (i + 1))) := sE_tr (sE_u (Or.inr (Or.inl rfl))) (sE_u (Or.inl ⟨rfl, rfl⟩))
      have hC1 := tC_s hC hn (pFHS s1)
      have hz1 := czz_s hz (pFHS s1)
      -- the latest with its prop
      obtain ⟨r2, hch, s2, l2, k2⟩ : ∃ r2, g_X4_change (uI (uI r 77 i (nI (s0H t a))) 76 1 (nI (i + 1))) 74 4 (nI (t.P (s0H t a))) (nI (s0H t a)) = r2 ∧ sE pFH (uI (uI r 77 i (nI (s0H t a))) 76 1 (nI (i + 1))) r2 ∧ laT (nxh t a (s0H t a)).2 r2 ∧ ∀ c k, c ≠ 75 → r2 c k = (uI (uI r 77 i (nI (s0H t a))) 76 1 (nI (i + 1))) c k := by
        by_cases hP4 : t.P (s0H t a) = 4
        · refine ⟨_, change_out (s := 4) ⟨hz1.2.2.2.2, by decide, by decide⟩ (by omega) (by omega), sE_rf, ⟨hz1.2.2.2.2, fun p hp => ?_⟩, fun _ _ _ => rfl⟩
          show (uI (uI r 77 i (nI (s0H t a))) 76 1 (nI (i + 1))) 75 p = lI (if p = t.P (s0H t a) then s0H t a else a.2 p)
          rw [if_neg (by omega), uI_at, if_neg (by omega), uI_at, if_neg (by omega)]
          exact hl.2 p hp
        · refine ⟨_, change_in (s := 4) ⟨hz1.2.2.2.2, by decide, by decide⟩ (by omega), sE_u (Or.inr (Or.inr rfl)), ⟨by rw [uI_at, if_neg (by omega)]; exact hz1.2.2.2.2, fun p hp => ?_⟩, fun c k hc => by rw [uI_at, if_neg (by omega)]⟩
          show (uI (uI (uI r 77 i (nI (s0H t a))) 76 1 (nI (i + 1))) 75 (t.P (s0H t a)) (nI (s0H t a))) 75 p = lI (if p = t.P (s0H t a) then s0H t a else a.2 p)
          rw [uI_at]
          by_cases q : p = t.P (s0H t a)
          · rw [if_pos ⟨rfl, q⟩, if_pos q]
            unfold lI
            rw [if_neg (by omega)]
          · rw [if_neg (by omega), if_neg q, uI_at, if_neg (by omega), uI_at, if_neg (by omega)]
            exact hl.2 p hp
      have hI := Ih_nx ok m a _ ha q1 q2
      obtain ⟨r', s3, t3, k3, j3, e3⟩ := ih (i + 1) (nxh t a (s0H t a)) r2 (.int (nI (s0H t a))) (by omega) hI (tC_s hC1 hn (pFHS s2)) (czz_s hz1 (pFHS s2)) (hwT_s (hwT_s hT s1) s2) l2 (by rw [k2 _ _ (by omega), uI_at, if_pos ⟨rfl, rfl⟩])
      refine ⟨r', sE_tr s1 (sE_tr s2 s3), t3, fun j hj => ?_, fun j hj => ?_, fun x1 Q => ?_⟩
      · rw [k3 j (by omega), k2 _ _ (by omega), uI_at, if_neg (by omega), uI_at, if_neg (by omega)]
      · cases j with
        | zero =>
          rw [Nat.add_zero, k3 i (by omega), k2 _ _ (by omega), uI_at, if_neg (by omega), uI_at, if_pos ⟨rfl, rfl⟩]
          rfl
        | succ j =>
          rw [show i + (j + 1) = i + 1 + j by omega]
          exact j3 j (by omega)
      · refine (sg_X0_findFewestHands_48 (d := d + 6) s_E).trans ?_
        rw [hC.n, if_pos (nI_lt (by omega) (by omega))]
        refine (x_handiest (d := d + 1) s_E ok hC hz hT ha hl).trans ?_
        refine (sg_X0_findFewestHands_64 (d := d + 6) s_E).trans ?_
        refine (x_X4_add (d := d + 5) (c_h0 := 7) s_E (oR rfl)).trans ?_
        rw [hadd]
        refine (sg_X0_findFewestHands_75 (d := d + 6) s_E).trans ?_
        refine (x_X2_at (d := d + 5) s_E oP11).trans ?_
        rw [sc_at h7]
        refine (sg_X0_findFewestHands_95 (d := d + 6) s_E (oS11 h7)).trans ?_
        rw [hC1.P _ q1]
        refine (x_X4_change (d := d + 5) (c_h0 := 4) s_E (oR rfl)).trans ?_
        rw [hch]
        refine (sg_X0_findFewestHands_103 (d := d + 6) s_E).trans ?_
        rw [sh31 (by omega), show (1 : Int32) = nI 1 from rfl, nI_shl (by omega), ← nI_or, nI_add]
        exact e3 x1 Q
  -- the sum over the props
  have four : ∀ p c v3 v4 Q, p < 4 → wG (d + 6) 10 (16, [.ref 65, .int (nI c), .int (nI p), v3, v4], [], mkH E (fR r1 75 4 (fun _ => -1))) Q = wG (d + 6) 10 (16, [.ref 65, .int (nI (c + hh t 8 p 0 9)), .int (nI (p + 1)), v3, v4], [], mkH E (fR r1 75 4 (fun _ => -1))) Q := by
    intro p c v3 v4 Q hp
    refine (sg_X0_findFewestHands_16 (d := d + 6) s_E).trans ?_
    rw [if_pos (show nI p < (4 : Int32) from @nI_lt p 4 hp (by decide))]
    refine (x_fewestAfter (d := d + 3) (g := 0) (l := 9) s_E ok hC2 hz2 (Ig0 ok) (fun g h1 h2 => hT2 g (Nat.zero_le _) h2) hp (Or.inl rfl)).trans ?_
    refine (sg_X0_findFewestHands_29 (d := d + 6) s_E).trans ?_
    rw [nI_add, ← nI_succ]
  have s3 : sE pFH (fR r1 75 4 (fun _ => -1)) (uI (fR r1 75 4 (fun _ => -1)) 76 1 0) := sE_u (Or.inl ⟨rfl, rfl⟩)
  obtain ⟨r4, s4, t4, k4, j4, e4⟩ := key t.n 0 (0, fun _ => 9) (uI (fR r1 75 4 (fun _ => -1)) 76 1 0) (.retAddr 0) (by omega) (Ih0 ok) (tC_s hC2 hn (pFHS s3)) (czz_s hz2 (pFHS s3)) (hwT_s hT2 s3) ⟨by rw [uI_at, if_neg (by omega)]; exact l2.1, fun p hp => by rw [uI_at, if_neg (by omega)]; exact l2.2 p hp⟩ (by rw [uI_at, if_pos ⟨rfl, rfl⟩]; rfl)
  refine ⟨r4, sE_tr (p73S s1) (sE_tr (pFHS s2) (sE_tr (pFHS s3) (pFHS s4))), t4, fun j hj => by have := j4 j hj; rw [Nat.zero_add] at this; exact this, fun Q => ?_⟩
  refine (en_X0_findFewestHands (d := d + 6) s_E).trans ?_
  refine (e1 _).trans ?_
  refine (sg_X0_findFewestHands_4 (d := d + 6) s_E).trans ?_
  refine (x_X4_changeAll (d := d + 4) (c_h0 := 4) (s := 4) s_E (oR rfl) ⟨hz1.2.2.2.2, by decide, by decide⟩).trans ?_
  refine (sg_X0_findFewestHands_12 (d := d + 6) s_E).trans ?_
  refine (four 0 0 _ _ Q (by decide)).trans ?_
  refine (four 1 _ _ _ Q (by decide)).trans ?_
  refine (four 2 _ _ _ Q (by decide)).trans ?_
  refine (four 3 _ _ _ Q (by decide)).trans ?_
  refine (sg_X0_findFewestHands_16 (d := d + 6) s_E).trans ?_
  rw [if_neg (show ¬ nI (3 + 1) < (4 : Int32) from by decide)]
  refine (x_X4_clear (d := d + 5) (c_h0 := 7) s_E (oR rfl)).trans ?_
  refine (sg_X0_findFewestHands_44 (d := d + 6) s_E).trans ?_
  refine (e4 _ Q).trans ?_
  show Q (some (.int (nI (0 + hh t 8 0 0 9 + hh t 8 1 0 9 + hh t 8 2 0 9 + hh t 8 3 0 9)))) _ = _
  rw [Nat.zero_add]
  rfl
end FN
