section LN
variable {d : Nat} {E : pEv} {r r' : Nat → Nat → Int32} {Q : Option Value → pH → Prop} {t : Th} {X : Tx}
theorem x_leastNext (s_E : oE E) (ok : tOK t) (hC : tC t r) (hz : czz r) (hA : agT t X r) (hT : vT t X 0 r) {m g : Nat} (hg : Ig t.n (m + 1) g) : wX (d + 3) 7 [.ref 65, .int (nI g)] (mkH E r) Q = Q (some (.int (nI (s0L t X g)))) (mkH E r) := by
  have hn := ok.n
  have h2n := p128 ok
  have hg128 : g < 128 := by have := hg.1; omega
  refine (en_X0_leastNext (d := d + 2) s_E).trans ?_
  have key : ∀ k s, s + k = t.n → wG (d + 2) 7 (2, [.ref 65, .int (nI g), .int (nI s)], [], mkH E r) Q = Q (some (.int (nI (sFi (fun s => decide (bt g s = 0) && decide (wg t X g s + vL t X (g ||| 1 <<< s) = vL t X g)) k s)))) (mkH E r) := by
    intro k
    induction k with
    | zero =>
      intro s hs
      refine (sg_X0_leastNext_2 (d := d + 2) s_E).trans ?_
      rw [hC.n, if_neg (nI_nlt (by omega) (by omega))]
      rfl
    | succ k ih =>
      intro s hk
      have hs : s < t.n := by omega
      have h7 : s < 7 := by omega
      refine (sg_X0_leastNext_2 (d := d + 2) s_E).trans ?_
      rw [hC.n, if_pos (nI_lt hs (by omega))]
      refine (x_X0_has (d := d + 1) s_E).trans ?_
      rw [has_t hg128 h7]
      refine (sg_X0_leastNext_18 (d := d + 2) s_E).trans ?_
      unfold sFi
      by_cases hb : bt g s = 0
      · obtain ⟨b1, b2, b3⟩ := bcF t.n (by omega) g hg.1 s hs hb
        have hT1 := (hT (g ||| 1 <<< s) (Nat.zero_le _) b2).1
        have hT2 := (hT g (Nat.zero_le _) hg.1).1
        rw [if_pos hb, if_pos rfl]
        refine (x_X0_guessAfter (d := d) s_E).trans ?_
        rw [ga_t ok hC hz hA hg128 hs]
        refine (sg_X0_leastNext_27 (d := d + 2) s_E).trans ?_
        rw [sh31 (by omega), show (1 : Int32) = nI 1 from rfl, nI_shl (by omega), ← nI_or]
        refine (x_X4_at (d := d + 1) (c_h0 := 128) s_E (oR rfl)).trans ?_
        rw [at_in (s := 128) ⟨hz.2.1, by decide, by decide⟩ (by omega), hT1]
        refine (sg_X0_leastNext_39 (d := d + 2) s_E).trans ?_
        refine (x_X4_at (d := d + 1) (c_h0 := 128) s_E (oR rfl)).trans ?_
        rw [at_in (s := 128) ⟨hz.2.1, by decide, by decide⟩ (by omega), hT2]
        refine (sg_X0_leastNext_48 (d := d + 2) s_E).trans ?_
        rw [nI_add]
        have w1 := wg_le (X := X) (g := g) ok hs
        have w2 := vL_le (t := t) (X := X) (g ||| 1 <<< s)
        have w3 := vL_le (t := t) (X := X) g
        have e : (nI (wg t X g s + vL t X (g ||| 1 <<< s)) = nI (vL t X g)) = (wg t X g s + vL t X (g ||| 1 <<< s) = vL t X g) := propext (nI_eq (by omega) (by omega))
        simp only [e]
        by_cases q : wg t X g s + vL t X (g ||| 1 <<< s) = vL t X g
        · rw [if_pos q, if_pos (by simp [hb, q])]
        · rw [if_neg q, if_neg (by simp [q]), ← nI_succ]
          exact ih (s + 1) (by omega)
      · rw [if_neg hb, if_neg (by decide), if_neg (by simp [hb]), ← nI_succ]
        exact ih (s + 1) (by omega)
  exact key t.n 0 (by omega)
def p767 : Nat → Nat → Prop := fun a k => (a = 76 ∧ k = 1) ∨ a = 77
theorem p767S (s : sE p767 r r') : sE SC r r' := sE_mo s (fun a k h => by unfold p767 at h; unfold SC; omega)
theorem vT_s {a : Nat} (h : vT t X a r) (s : sE p767 r r') : vT t X a r' := fun g h1 h2 => by
  rw [s _ _ (by unfold p767; omega), s _ _ (by unfold p767; omega)]
  exact h g h1 h2
theorem x_findLeast (s_E : oE E) (ok : tOK t) (hC : tC t r) (xo : xOK X) (hX : xC X r) (hz : czz r) : ∃ r', sE SC r r' ∧ r' 76 1 = nI t.n ∧ (∀ j, j < t.n → r' 77 j = nI (gl (grd nxg (s0L t X) t.n 0) j)) ∧ ∀ Q, wX (d + 7) 6 [.ref 65] (mkH E r) Q = Q (some (.int (nI (vL t X 0)))) (mkH E r') := by
  have hn := ok.n
  have h2n := p128 ok
  obtain ⟨r1, s1, a1, e1⟩ := x_askGuesses (d := d) s_E ok hC xo hX hz
  have hC1 := tC_s hC hn s1
  have hz1 := czz_s hz s1
  obtain ⟨r2, s2, v2, e2⟩ := x_weighGuesses (d := d + 2) (X := X) s_E ok hC1 hz1 a1
  have hC2 := tC_s hC1 hn (wvS s2)
  have hz2 := czz_s hz1 (wvS s2)
  have hA2 : agT t X r2 := agT_s a1 (fun k => s2 _ _ (by unfold wvP; omega))
  have key : ∀ m i g r v3, i + m = t.n → Ig t.n m g → tC t r → czz r → agT t X r → vT t X 0 r → r 76 1 = nI i → ∃ r', sE p767 r r' ∧ r' 76 1 = nI t.n ∧ (∀ j, j < i → r' 77 j = r 77 j) ∧ (∀ j, j < m → r' 77 (i + j) = nI (gl (grd nxg (s0L t X) m g) j)) ∧ ∀ Q, wG (d + 6) 6 (19, [.ref 65, .int (nI g), .int (nI i), v3], [], mkH E r) Q = Q (some (.int (nI (vL t X 0)))) (mkH E r') := by
    intro m
    induction m with
    | zero =>
      intro i g r v3 hi hg hC hz hA hT h76
      refine ⟨r, sE_rf, by rw [h76, show i = t.n by omega], fun j _ => rfl, fun j hj => absurd hj (Nat.not_lt_zero _), fun Q => ?_⟩
      refine (sg_X0_findLeastGuessed_19 (d := d + 6) s_E).trans ?_
      rw [hC.n, if_neg (nI_nlt (by omega) (by omega))]
      refine (x_X4_at (d := d + 5) (c_h0 := 128) s_E (oR rfl)).trans ?_
      have ha := at_in (ro := r) (r := 68) (c := 128) (s := 128) (i := 0) ⟨hz.2.1, by decide, by decide⟩ (by decide)
      rw [show nI 0 = (0 : Int32) from rfl] at ha
      rw [ha, (hT 0 (Nat.zero_le _) (Nat.two_pow_pos _)).1]
      exact sg_X0_findLeastGuessed_64 (d := d + 6) s_E
    | succ m ih =>
      intro i g r v3 hi hg hC hz hA hT h76
      obtain ⟨q1, q2, q3, q4⟩ := hLs (X := X) ok m g hg
      have h7 : s0L t X g < 7 := by omega
      have hadd := add_in (ro := r) (r := 76) (c := 7) (s := i) (v := nI (s0L t X g)) ⟨h76, by omega, by decide⟩ (by omega)
      have s1 : sE p767 r (uI (uI r 77 i (nI (s0L t X g))) 76 1 (nI (i + 1))) := sE_tr (sE_u (Or.inr rfl)) (sE_u (Or.inl ⟨rfl, rfl⟩))
      obtain ⟨r', s2, t2, k2, j2, e2⟩ := ih (i + 1) (nxg g (s0L t X g)) (uI (uI r 77 i (nI (s0L t X g))) 76 1 (nI (i + 1))) (.int (nI (s0L t X g))) (by omega) (Ig_nx ok hg q1 q2) (tC_s hC hn (p767S s1)) (czz_s hz (p767S s1)) (agT_s hA (fun k => s1 _ _ (by unfold p767; omega))) (vT_s hT s1) (by rw [uI_at, if_pos ⟨rfl, rfl⟩])
      refine ⟨r', sE_tr s1 s2, t2, fun j hj => ?_, fun j hj => ?_, fun Q => ?_⟩
      · rw [k2 j (by omega), uI_at, if_neg (by omega), uI_at, if_neg (by omega)]
      · cases j with
        | zero =>
          rw [Nat.add_zero, k2 i (by omega), uI_at, if_neg (by omega), uI_at, if_pos ⟨rfl, rfl⟩]
          rfl
        | succ j =>
          rw [show i + (j + 1) = i + 1 + j by omega]
          exact j2 j (by omega)
      · refine (sg_X0_findLeastGuessed_19 (d := d + 6) s_E).trans ?_
        rw [hC.n, if_pos (nI_lt (by omega) (by omega))]
        refine (x_leastNext (d := d + 3) s_E ok hC hz hA hT hg).trans ?_
        refine (sg_X0_findLeastGuessed_35 (d := d + 6) s_E).trans ?_
        refine (x_X4_add (d := d + 5) (c_h0 := 7) s_E (oR rfl)).trans ?_
        rw [hadd]
        refine (sg_X0_findLeastGuessed_44 (d := d + 6) s_E).trans ?_
        rw [sh31 (by omega), show (1 : Int32) = nI 1 from rfl, nI_shl (by omega), ← nI_or, nI_add]
        exact e2 Q
  have s3 : sE p767 r2 (uI r2 76 1 0) := sE_u (Or.inl ⟨rfl, rfl⟩)
  obtain ⟨r4, s4, t4, k4, j4, e4⟩ := key t.n 0 0 (uI r2 76 1 0) (.retAddr 0) (by omega) (Ig0 ok) (tC_s hC2 hn (p767S s3)) (czz_s hz2 (p767S s3)) (agT_s hA2 (fun k => s3 _ _ (by unfold p767; omega))) (vT_s v2 s3) (by rw [uI_at, if_pos ⟨rfl, rfl⟩]; rfl)
  refine ⟨r4, sE_tr s1 (sE_tr (wvS s2) (sE_tr (p767S s3) (p767S s4))), t4, fun j hj => by have := j4 j hj; rw [Nat.zero_add] at this; exact this, fun Q => ?_⟩
  refine (en_X0_findLeastGuessed (d := d + 6) s_E).trans ?_
  refine (e1 _).trans ?_
  refine (sg_X0_findLeastGuessed_4 (d := d + 6) s_E).trans ?_
  refine (e2 _).trans ?_
  refine (sg_X0_findLeastGuessed_8 (d := d + 6) s_E).trans ?_
  refine (x_X4_clear (d := d + 5) (c_h0 := 7) s_E (oR rfl)).trans ?_
  refine (sg_X0_findLeastGuessed_15 (d := d + 6) s_E).trans ?_
  exact e4 Q
theorem ways_t {m : Nat} (h : m < 8) : f_X0_waysOf E (nI m) = nI (wy m) := by
  have : ∀ m, m < 8 → f_X0_waysOf (0, fun _ => 0, fun _ _ => none) (nI m) = nI (wy m) := by decide +kernel
  exact this m h
theorem sub_lt {a b c : Nat} (ha : a < 2 ^ 30) (hb : b < 2 ^ 30) (hc : c < 2 ^ 30) : (nI a - nI b < nI c) = (a < b + c) := by
  refine propext ?_
  rw [Int32.lt_iff_toInt_lt, nI_toInt (by omega)]
  have e : (nI a - nI b).toInt = (a : Int) - b := by
    rw [Int32.toInt_sub, nI_toInt (by omega), nI_toInt (by omega)]
    have h1 : (a : Int) < 2 ^ 30 := by exact_mod_cast ha
    have h2 : (b : Int) < 2 ^ 30 := by exact_mod_cast hb
    exact Int.bmod_eq_of_le (by omega) (by omega)
  rw [e]
  omega
theorem x_countUpTo (s_E : oE E) (ok : tOK t) (hC : tC t r) (hz : czz r) (hA : agT t X r) (hT : vT t X 0 r) : ∀ m g G, Ig t.n m g → G < 2 ^ 30 → ∀ D, 3 + m ≤ D → ∀ Q, wX (D + 1) 9 [.ref 65, .int (nI G), .int (nI g), .int (nI m)] (mkH E r) Q = Q (some (.int (nI (cUL t X m g G)))) (mkH E r) := by
  have hn := ok.n
  have h2n := p128 ok
  intro m
  induction m with
  | zero =>
    intro g G hg hG D hD Q
    refine (en_X0_countUpTo (d := D) s_E).trans ?_
    refine (sg_X0_countUpTo_6 (d := D) s_E).trans ?_
    rw [if_neg (show ¬ 0 < nI 0 from by decide)]
    split <;> rfl
  | succ m ih =>
    intro g G hg hG D hD Q
    obtain ⟨e, rfl⟩ : ∃ e, D = e + 3 := ⟨D - 3, by omega⟩
    have hg128 : g < 128 := by have := hg.1; omega
    have hm7 : m < 7 := by have := hg.2; omega
    refine (en_X0_countUpTo (d := e + 3) s_E).trans ?_
    have key : ∀ k s c v6 v7, s + k = t.n → wG (e + 3) 9 (6, [.ref 65, .int (nI G), .int (nI g), .int (nI (m + 1)), .int (nI c), .int (nI s), v6, v7], [], mkH E r) Q = Q (some (.int (nI (it (fun s c => if bt g s = 0 then c + (if wg t X g s + vM t X (nxg g s) ≤ G then wy m else if wg t X g s + vL t X (nxg g s) ≤ G then cUL t X m (nxg g s) (G - wg t X g s) else 0) else c) k s c)))) (mkH E r) := by
      intro k
      induction k with
      | zero =>
        intro s c v6 v7 hk
        refine (sg_X0_countUpTo_6 (d := e + 3) s_E).trans ?_
        rw [hC.n, if_neg (nI_nlt (by omega) (by omega))]
        rfl
      | succ k ihk =>
        intro s c v6 v7 hk
        have hs : s < t.n := by omega
        have h7 : s < 7 := by omega
        refine (sg_X0_countUpTo_6 (d := e + 3) s_E).trans ?_
        rw [hC.n, if_pos (nI_lt hs (by omega)), if_pos (show 0 < nI (m + 1) from @nI_lt 0 (m + 1) (by omega) (by omega))]
        refine (x_X0_has (d := e + 2) s_E).trans ?_
        rw [has_t hg128 h7]
        refine (sg_X0_countUpTo_28 (d := e + 3) s_E).trans ?_
        rw [sh31 (by omega), show (1 : Int32) = nI 1 from rfl, nI_shl (by omega), ← nI_or, nI_add]
        show _ = Q (some (.int (nI (it _ k (s + 1) (if bt g s = 0 then c + _ else c))))) (mkH E r)
        by_cases hb : bt g s = 0
        · have hI := Ig_nx ok hg hs hb
          have hT1 := hT (g ||| 1 <<< s) (Nat.zero_le _) hI.1
          have w1 := wg_le (X := X) (g := g) ok hs
          have w2 := vL_le (t := t) (X := X) (g ||| 1 <<< s)
          have w3 := vM_le (X := X) ok (g ||| 1 <<< s)
          have hlt : g ||| 1 <<< s < 128 := by have := hI.1; unfold nxg at this; omega
          rw [if_pos hb, if_pos rfl, if_pos hb]
          refine (x_X0_guessAfter (d := e + 1) s_E).trans ?_
          rw [ga_t ok hC hz hA hg128 hs]
          refine (sg_X0_countUpTo_47 (d := e + 3) s_E).trans ?_
          refine (x_X4_at (d := e + 2) (c_h0 := 128) s_E (oR rfl)).trans ?_
          rw [at_in (s := 128) ⟨hz.2.2.1, by decide, by decide⟩ hlt, hT1.2]
          refine (sg_X0_countUpTo_59 (d := e + 3) s_E).trans ?_
          rw [nI_pred]
          simp only [sub_lt hG (show wg t X g s < 2 ^ 30 by omega) (show vM t X (g ||| 1 <<< s) < 2 ^ 30 by omega)]
          by_cases c1 : wg t X g s + vM t X (g ||| 1 <<< s) ≤ G
          · rw [if_neg (by omega), if_pos (show wg t X g s + vM t X (nxg g s) ≤ G from c1)]
            refine (x_X0_waysOf (d := e + 1) s_E).trans ?_
            rw [ways_t (by omega)]
            refine (sg_X0_countUpTo_72 (d := e + 3) s_E).trans ?_
            rw [nI_add, ← nI_succ]
            exact ihk (s + 1) _ _ _ (by omega)
          · rw [if_pos (by omega), if_neg (show ¬ wg t X g s + vM t X (nxg g s) ≤ G from c1)]
            refine (x_X4_at (d := e + 2) (c_h0 := 128) s_E (oR rfl)).trans ?_
            rw [at_in (s := 128) ⟨hz.2.1, by decide, by decide⟩ hlt, hT1.1]
            refine (sg_X0_countUpTo_87 (d := e + 3) s_E).trans ?_
            rw [nI_pred]
            simp only [sub_lt hG (show wg t X g s < 2 ^ 30 by omega) (show vL t X (g ||| 1 <<< s) < 2 ^ 30 by omega)]
            by_cases c2 : wg t X g s + vL t X (g ||| 1 <<< s) ≤ G
            · rw [if_neg (by omega), if_pos (show wg t X g s + vL t X (nxg g s) ≤ G from c2)]
              have eG : nI G - nI (wg t X g s) = nI (G - wg t X g s) := by
                obtain ⟨q, hq⟩ : ∃ q, G = q + wg t X g s := ⟨G - wg t X g s, by omega⟩
                rw [hq, Nat.add_sub_cancel, ← nI_add, Int32.add_sub_cancel]
              rw [eG]
              refine (ih (nxg g s) (G - wg t X g s) hI (by omega) (e + 2) (by omega) _).trans ?_
              refine (sg_X0_countUpTo_105 (d := e + 3) s_E).trans ?_
              rw [nI_add, ← nI_succ]
              exact ihk (s + 1) _ _ _ (by omega)
            · rw [if_pos (by omega), if_neg (show ¬ wg t X g s + vL t X (nxg g s) ≤ G from c2), ← nI_succ]
              exact ihk (s + 1) _ _ _ (by omega)
        · rw [if_neg hb, if_neg (by decide), if_neg hb]
          exact ihk (s + 1) _ _ _ (by omega)
    exact key t.n 0 0 _ _ (by omega)
theorem x_howMany (s_E : oE E) (ok : tOK t) (hC : tC t r) (xo : xOK X) (hX : xC X r) (hz : czz r) {G : Nat} (hG : G < 2 ^ 30) : ∃ r', sE SC r r' ∧ ∀ Q, wX (d + 13) 8 [.ref 65, .int (nI G)] (mkH E r) Q = Q (some (.int (nI (ctl (fun l => gs t X (gl l)) G (pmA t.n t.n 0))))) (mkH E r') := by
  have hn := ok.n
  have h2n := p128 ok
  obtain ⟨r1, s1, a1, e1⟩ := x_askGuesses (d := d + 6) s_E ok hC xo hX hz
  have hC1 := tC_s hC hn s1
  have hz1 := czz_s hz s1
  obtain ⟨r2, s2, v2, e2⟩ := x_weighGuesses (d := d + 8) (X := X) s_E ok hC1 hz1 a1
  have hC2 := tC_s hC1 hn (wvS s2)
  have hz2 := czz_s hz1 (wvS s2)
  have hA2 : agT t X r2 := agT_s a1 (fun k => s2 _ _ (by unfold wvP; omega))
  refine ⟨r2, sE_tr s1 (wvS s2), fun Q => ?_⟩
  refine (en_X0_howManyUpTo (d := d + 12) s_E).trans ?_
  refine (e1 _).trans ?_
  refine (sg_X0_howManyUpTo_4 (d := d + 12) s_E).trans ?_
  refine (e2 _).trans ?_
  refine (sg_X0_howManyUpTo_8 (d := d + 12) s_E).trans ?_
  refine (x_X4_at (d := d + 11) (c_h0 := 128) s_E (oR rfl)).trans ?_
  have ha := at_in (ro := r2) (r := 70) (c := 128) (s := 128) (i := 0) ⟨hz2.2.2.1, by decide, by decide⟩ (by decide)
  rw [show nI 0 = (0 : Int32) from rfl] at ha
  rw [ha, (v2 0 (Nat.zero_le _) (Nat.two_pow_pos _)).2]
  refine (sg_X0_howManyUpTo_16 (d := d + 12) s_E).trans ?_
  rw [hC2.n, count_main ok]
  have w3 := vM_le (X := X) ok 0
  have e : (nI G < nI (vM t X 0)) = (G < vM t X 0) := propext (nI_ltI (by omega) (by omega))
  simp only [e]
  by_cases c1 : vM t X 0 ≤ G
  · rw [if_neg (by omega), if_pos c1]
    refine (x_X0_waysOf (d := d + 10) s_E).trans ?_
    rw [ways_t (by omega)]
    exact sg_X0_howManyUpTo_30 (d := d + 12) s_E
  · rw [if_pos (by omega), if_neg c1]
    refine (x_countUpTo s_E ok hC2 hz2 hA2 v2 t.n 0 G (Ig0 ok) hG (d + 11) (by omega) _).trans ?_
    exact sg_X0_howManyUpTo_46 (d := d + 12) s_E
end LN
