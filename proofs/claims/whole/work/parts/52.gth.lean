section GT
variable {d : Nat} {E : pEv} {r r' : Nat → Nat → Int32} {Q : Option Value → pH → Prop} {t : Th} {X : Tx}
def bP : Nat → Nat → Prop := fun a k => a = 106 ∨ a = 108 ∨ a = 109 ∨ (a = 101 ∧ (k = 15 ∨ k = 16))
def aR (n : Nat) (acc : Option (Nat × List Nat)) (r : Nat → Nat → Int32) : Prop := match acc with
  | none => r 101 15 = -1
  | some y => r 101 15 = nI y.1 ∧ y.1 < 10000 ∧ ∀ k, k < n → r 109 k = nI (gl y.2 k)
theorem tM_b (hM : tM t r) (s : sE bP r r') : tM t r' := hM.fr (funext fun k => s 102 k (by unfold bP; omega))
theorem guT_b (h : guT t X r) (s : sE bP r r') : guT t X r' := fun q c h1 h2 => by rw [s _ _ (by unfold bP; omega)]; exact h q c h1 h2
/-- the best row, copied -/
theorem x_gtCopy (s_E : oE E) (ok : tOK t) {l : List Nat} {x1 x2 x3 x4 : Int32} : ∀ k i r, i + k = t.n → tM t r → rW t (gl l) r → (∀ j, j < i → r 109 j = nI (gl l j)) → ∃ r' v5, sE (fun a _ => a = 109) r r' ∧ (∀ j, j < t.n → r' 109 j = nI (gl l j)) ∧ ∀ Q, wG d 206 (107, [.ref 101, .int x1, .int x2, .int x3, .int x4, .int (nI i)], [], mkH E r) Q = wX d 205 [.ref 101] (mkH E r') (fun v h' => wG d 206 (142, [.ref 101, .int x1, .int x2, .int x3, .int x4, v5], pv v [], h') Q) := by
  have hn := ok.n
  intro k
  induction k with
  | zero =>
    intro i r hi hM hr hj
    have hlt : ¬ nI i < r 102 0 := by rw [hM.n]; exact nI_nlt (by omega) (by omega)
    refine ⟨r, .int (nI i), sE_rf, fun j hjn => hj j (by omega), fun Q => ?_⟩
    refine (sg_X10_goThrough_107 s_E (fun h => absurd h hlt)).trans ?_
    rw [if_neg hlt]
  | succ k ih =>
    intro i r hi hM hr hj
    have hit : i < t.n := by omega
    have s1 : sE (fun a _ => a = 109) r (uI r 109 i (nI (gl l i))) := sE_u rfl
    obtain ⟨r', v5, s2, j2, e2⟩ := ih (i + 1) (uI r 109 i (nI (gl l i))) (by omega) (hM.fr (funext fun k => s1 102 k (by omega))) (rW_s hr (fun k => s1 106 k (by omega))) (fun j hjn => by
      rw [uI_at]
      by_cases q : j = i
      · rw [q, if_pos ⟨rfl, rfl⟩]
      · rw [if_neg (by omega)]; exact hj j (by omega))
    refine ⟨r', v5, sE_tr s1 s2, j2, fun Q => ?_⟩
    refine (sg_X10_goThrough_107 s_E (fun _ => ix_n (show i < 7 by omega) (by decide))).trans ?_
    rw [hM.n, if_pos (nI_lt hit (by omega)), nI_clamp (by omega), (hr i hit).1, ← nI_succ]
    exact e2 Q
theorem x_gtTail (s_E : oE E) (ok : tOK t) {l : List Nat} {x1 : Int32} {G v0 cnt : Nat} {val : List Nat → Nat} {acc : Option (Nat × List Nat)} (hG : G < 2 ^ 31) (hv : val l = v0) (hv2 : v0 < 10000) (hM : tM t r) (hr : rW t (gl l) r) (ha : aR t.n acc r) (hc : r 101 16 = nI cnt) : ∃ r', ∃ w5 : Value → Value, sE bP r r' ∧ rW t (gl l) r' ∧ aR t.n (fb1 val acc l) r' ∧ r' 101 16 = nI (cnt + (if v0 ≤ G then 1 else 0)) ∧ (∀ v4 v5 Q, wG d 206 (53, [.ref 101, .int x1, .int (nI G), .int 1, v4, v5], [.int (nI v0)], mkH E r) Q = wX d 205 [.ref 101] (mkH E r') (fun v h' => wG d 206 (142, [.ref 101, .int x1, .int (nI G), .int 1, .int (nI v0), w5 v5], pv v [], h') Q)) ∧ (∀ v4 v5 Q, wG d 206 (60, [.ref 101, .int x1, .int (nI G), .int 1, v4, v5], [.int (nI v0)], mkH E r) Q = wX d 205 [.ref 101] (mkH E r') (fun v h' => wG d 206 (142, [.ref 101, .int x1, .int (nI G), .int 1, .int (nI v0), w5 v5], pv v [], h') Q)) := by
  have eG : (nI G < nI v0) = (G < v0) := propext (nI_ltI hG (by omega))
  -- the count
  have cn : ∀ b : Nat, (uI r 101 16 (r 101 16 + nI b)) = uI r 101 16 (nI (cnt + b)) := fun b => by rw [hc, nI_add]
  obtain ⟨b, hb, hbe⟩ : ∃ b : Nat, b = (if v0 ≤ G then 1 else 0) ∧ ((G < v0 ∧ b = 0) ∨ (¬ G < v0 ∧ b = 1)) := by
    by_cases q : v0 ≤ G
    · exact ⟨1, by rw [if_pos q], Or.inr ⟨by omega, rfl⟩⟩
    · exact ⟨0, by rw [if_neg q], Or.inl ⟨by omega, rfl⟩⟩
  rw [← hb]
  have s1 : sE bP r (uI r 101 16 (nI (cnt + b))) := sE_u (Or.inr (Or.inr (Or.inr ⟨rfl, Or.inr rfl⟩)))
  have hM1 := tM_b hM s1
  have hr1 : rW t (gl l) (uI r 101 16 (nI (cnt + b))) := rW_s hr (fun k => by rw [uI_at, if_neg (by omega)])
  have e15 : (uI r 101 16 (nI (cnt + b))) 101 15 = r 101 15 := by rw [uI_at, if_neg (by omega)]
  have e16 : (uI r 101 16 (nI (cnt + b))) 101 16 = nI (cnt + b) := by rw [uI_at, if_pos ⟨rfl, rfl⟩]
  -- one form for both
  have form : ∀ (A : (Nat → Nat → Int32) → Prop), (if nI G < nI v0 then A (uI r 101 16 (r 101 16 + 0)) else A (uI r 101 16 (r 101 16 + 1))) = A (uI r 101 16 (nI (cnt + b))) := by
    intro A
    have c0 := cn 0
    have c1 := cn 1
    rw [show nI 0 = (0 : Int32) from rfl] at c0
    rw [show nI 1 = (1 : Int32) from rfl] at c1
    rw [c0, c1]
    simp only [eG]
    rcases hbe with ⟨h1, h2⟩ | ⟨h1, h2⟩
    · rw [if_pos h1, h2]
    · rw [if_neg h1, h2]
  by_cases hnew : acc = none ∨ ∃ y, acc = some y ∧ v0 < y.1
  · -- a new best
    have s2 : sE bP (uI r 101 16 (nI (cnt + b))) (uI (uI r 101 16 (nI (cnt + b))) 101 15 (nI v0)) := sE_u (Or.inr (Or.inr (Or.inr ⟨rfl, Or.inl rfl⟩)))
    obtain ⟨r', v5', s3, j3, e3⟩ := x_gtCopy (d := d) (l := l) (x1 := x1) (x2 := nI G) (x3 := 1) (x4 := nI v0) s_E ok t.n 0 (uI (uI r 101 16 (nI (cnt + b))) 101 15 (nI v0)) (by omega) (tM_b hM1 s2) (rW_s hr1 (fun k => by rw [uI_at, if_neg (by omega)])) (fun j hj => absurd hj (Nat.not_lt_zero _))
    have s3' : sE bP (uI (uI r 101 16 (nI (cnt + b))) 101 15 (nI v0)) r' := sE_mo s3 (fun a k h => Or.inr (Or.inr (Or.inl h)))
    have hfb : fb1 val acc l = some (v0, l) := by
      rcases hnew with h | ⟨y, h, h2⟩
      · rw [h]; show some (val l, l) = _; rw [hv]
      · rw [h]; show (if val l < y.1 then some (val l, l) else some y) = _; rw [hv, if_pos h2]
    have br : ∀ (A B : Prop), (if (uI r 101 16 (nI (cnt + b))) 101 15 < 0 then A else if nI v0 < (uI r 101 16 (nI (cnt + b))) 101 15 then A else B) = A := by
      intro A B
      rw [e15]
      rcases hnew with h | ⟨y, h, h2⟩
      · rw [h] at ha
        have ha : r 101 15 = -1 := ha
        rw [ha, if_pos (by decide)]
      · rw [h] at ha
        have ha : r 101 15 = nI y.1 ∧ y.1 < 10000 ∧ _ := ha
        rw [ha.1, if_neg (nI_pos (by omega)), if_pos (nI_lt h2 (by omega))]
    refine ⟨r', fun _ => v5', sE_tr s1 (sE_tr s2 s3'), rW_s hr1 (fun k => by rw [s3 _ _ (by omega), uI_at, if_neg (by omega)]), ?_, ?_, fun v4 v5 Q => ?_, fun v4 v5 Q => ?_⟩
    · rw [hfb]
      refine ⟨?_, hv2, j3⟩
      rw [s3 _ _ (by omega), uI_at, if_pos ⟨rfl, rfl⟩]
    · rw [s3 _ _ (by omega), uI_at, if_neg (by omega), e16]
    · refine (sg_X10_goThrough_53 (d := d) s_E).trans ?_
      refine (form (fun R => if R 101 15 < 0 then wG d 206 (107, [.ref 101, .int x1, .int (nI G), .int 1, .int (nI v0), .int 0], [], mkH E (uI R 101 15 (nI v0))) Q else (if nI v0 < R 101 15 then wG d 206 (107, [.ref 101, .int x1, .int (nI G), .int 1, .int (nI v0), .int 0], [], mkH E (uI R 101 15 (nI v0))) Q else wX d 205 [.ref 101] (mkH E R) (fun v1 h' => wG d 206 (142, [.ref 101, .int x1, .int (nI G), .int 1, .int (nI v0), v5], pv v1 [], h') Q)))).trans ?_
      refine (br _ _).trans ?_
      exact e3 Q
    · refine (sg_X10_goThrough_60 (d := d) s_E).trans ?_
      refine (form (fun R => if R 101 15 < 0 then wG d 206 (107, [.ref 101, .int x1, .int (nI G), .int 1, .int (nI v0), .int 0], [], mkH E (uI R 101 15 (nI v0))) Q else (if nI v0 < R 101 15 then wG d 206 (107, [.ref 101, .int x1, .int (nI G), .int 1, .int (nI v0), .int 0], [], mkH E (uI R 101 15 (nI v0))) Q else wX d 205 [.ref 101] (mkH E R) (fun v1 h' => wG d 206 (142, [.ref 101, .int x1, .int (nI G), .int 1, .int (nI v0), v5], pv v1 [], h') Q)))).trans ?_
      refine (br _ _).trans ?_
      exact e3 Q
  · -- none
    obtain ⟨y, hy, hy2⟩ : ∃ y, acc = some y ∧ ¬ v0 < y.1 := by
      cases acc with
      | none => exact absurd (Or.inl rfl) hnew
      | some y => exact ⟨y, rfl, fun h => hnew (Or.inr ⟨y, rfl, h⟩)⟩
    have hfb : fb1 val acc l = acc := by
      rw [hy]; show (if val l < y.1 then some (val l, l) else some y) = _; rw [hv, if_neg hy2]
    have ha' : r 101 15 = nI y.1 ∧ y.1 < 10000 ∧ ∀ k, k < t.n → r 109 k = nI (gl y.2 k) := by
      rw [hy] at ha; exact ha
    have br : ∀ (A B : Prop), (if (uI r 101 16 (nI (cnt + b))) 101 15 < 0 then A else if nI v0 < (uI r 101 16 (nI (cnt + b))) 101 15 then A else B) = B := by
      intro A B
      rw [e15, ha'.1, if_neg (nI_pos (by omega)), if_neg (nI_nlt (by omega) (by omega))]
    refine ⟨_, fun v5 => v5, s1, hr1, ?_, e16, fun v4 v5 Q => ?_, fun v4 v5 Q => ?_⟩
    · rw [hfb, hy]
      refine ⟨e15.trans ha'.1, ha'.2.1, fun k hk => ?_⟩
      rw [uI_at, if_neg (by omega)]
      exact ha'.2.2 k hk
    · refine (sg_X10_goThrough_53 (d := d) s_E).trans ?_
      refine (form (fun R => if R 101 15 < 0 then wG d 206 (107, [.ref 101, .int x1, .int (nI G), .int 1, .int (nI v0), .int 0], [], mkH E (uI R 101 15 (nI v0))) Q else (if nI v0 < R 101 15 then wG d 206 (107, [.ref 101, .int x1, .int (nI G), .int 1, .int (nI v0), .int 0], [], mkH E (uI R 101 15 (nI v0))) Q else wX d 205 [.ref 101] (mkH E R) (fun v1 h' => wG d 206 (142, [.ref 101, .int x1, .int (nI G), .int 1, .int (nI v0), v5], pv v1 [], h') Q)))).trans ?_
      exact br _ _
    · refine (sg_X10_goThrough_60 (d := d) s_E).trans ?_
      refine (form (fun R => if R 101 15 < 0 then wG d 206 (107, [.ref 101, .int x1, .int (nI G), .int 1, .int (nI v0), .int 0], [], mkH E (uI R 101 15 (nI v0))) Q else (if nI v0 < R 101 15 then wG d 206 (107, [.ref 101, .int x1, .int (nI G), .int 1, .int (nI v0), .int 0], [], mkH E (uI R 101 15 (nI v0))) Q else wX d 205 [.ref 101] (mkH E R) (fun v1 h' => wG d 206 (142, [.ref 101, .int x1, .int (nI G), .int 1, .int (nI v0), v5], pv v1 [], h') Q)))).trans ?_
      exact br _ _
/-- all the rows, one after another; b: by hands -/
theorem x_gtLoop (s_E : oE E) (ok : tOK t) {b G : Nat} (hb : b < 2) (hG : G < 2 ^ 31) {val : List Nat → Nat}
    (hv : ∀ l r, tM t r → guT t X r → rW t (gl l) r → ∃ r', sE (fun a _ => a = 108) r r' ∧ ∀ Q, wX (d + 1) (191 + b) [.ref 101] (mkH E r) Q = Q (some (.int (nI (val l)))) (mkH E r')) :
    ∀ L l acc cnt r v4 v5, (∀ l', l' ∈ l :: L → val l' < 10000) → chn t.n (l :: L) = true → tM t r → guT t X r → rW t (gl l) r → aR t.n acc r → r 101 16 = nI cnt → ∃ r', sE bP r r' ∧ aR t.n (fbs val (l :: L) acc) r' ∧ r' 101 16 = nI (cnt + ctl val G (l :: L)) ∧ ∀ Q, wG (d + 1) 206 (41, [.ref 101, .int (nI b), .int (nI G), .int 1, v4, v5], [], mkH E r) Q = Q none (mkH E r') := by
  have pre : ∀ l acc cnt r v5, val l < 10000 → tM t r → guT t X r → rW t (gl l) r → aR t.n acc r → r 101 16 = nI cnt → ∃ r2 w5, sE bP r r2 ∧ rW t (gl l) r2 ∧ aR t.n (fb1 val acc l) r2 ∧ r2 101 16 = nI (cnt + (if val l ≤ G then 1 else 0)) ∧ ∀ v4 Q, wG (d + 1) 206 (41, [.ref 101, .int (nI b), .int (nI G), .int 1, v4, v5], [], mkH E r) Q = wX (d + 1) 205 [.ref 101] (mkH E r2) (fun v h' => wG (d + 1) 206 (142, [.ref 101, .int (nI b), .int (nI G), .int 1, .int (nI (val l)), w5], pv v [], h') Q) := by
    intro l acc cnt r v5 hvl hM hT hr ha hc
    obtain ⟨r1, s1, e1⟩ := hv l r hM hT hr
    have s1' : sE bP r r1 := sE_mo s1 (fun a k h => Or.inr (Or.inl h))
    have ha1 : aR t.n acc r1 := by
      cases acc with
      | none => show r1 101 15 = -1; rw [s1 _ _ (by omega)]; exact ha
      | some y =>
        obtain ⟨h1, h2, h3⟩ := ha
        exact ⟨by rw [s1 _ _ (by omega)]; exact h1, h2, fun k hk => by rw [s1 _ _ (by omega)]; exact h3 k hk⟩
    obtain ⟨r2, w5, s2, hr2, ha2, hc2, f53, f60⟩ := x_gtTail (d := d + 1) (x1 := nI b) (G := G) (val := val) s_E ok hG rfl hvl (tM_b hM s1') (rW_s hr (fun k => s1 _ _ (by omega))) ha1 (by rw [s1 _ _ (by omega)]; exact hc)
    refine ⟨r2, w5 v5, sE_tr s1' s2, hr2, ha2, hc2, fun v4 Q => ?_⟩
    refine (sg_X10_goThrough_41 (d := d + 1) s_E).trans ?_
    rw [if_neg (by decide)]
    match b, hb with
    | 0, _ =>
      rw [if_pos (show nI 0 = 0 from rfl)]
      refine (e1 _).trans ?_
      exact f60 _ _ Q
    | 1, _ =>
      rw [if_neg (show ¬ nI 1 = 0 from by decide)]
      refine (e1 _).trans ?_
      exact f53 _ _ Q
    | b + 2, h => exact absurd h (by omega)
  intro L
  induction L with
  | nil =>
    intro l acc cnt r v4 v5 hvl hch hM hT hr ha hc
    obtain ⟨r2, w5, s2, hr2, ha2, hc2, f⟩ := pre l acc cnt r v5 (hvl l (List.mem_cons_self)) hM hT hr ha hc
    have hM2 := tM_b hM s2
    have hnx : nxf t.n (gl l) = none := by
      have hch : (nxq t.n l [] && true) = true := hch
      rw [Bool.and_true] at hch
      unfold nxq at hch
      cases hq : nxf t.n (gl l) with
      | none => rfl
      | some g => rw [hq] at hch; cases hch
    refine ⟨r2, s2, ha2, hc2, fun Q => ?_⟩
    refine (f v4 Q).trans ?_
    refine ((x_nextRow (d := d) s_E ok hM2 hr2).1 hnx _).trans ?_
    refine (sg_X10_goThrough_142 (d := d + 1) s_E).trans ?_
    refine (sg_X10_goThrough_41 (d := d + 1) s_E).trans ?_
    rw [if_pos rfl]
  | cons l2 L ih =>
    intro l acc cnt r v4 v5 hvl hch hM hT hr ha hc
    obtain ⟨r2, w5, s2, hr2, ha2, hc2, f⟩ := pre l acc cnt r v5 (hvl l (List.mem_cons_self)) hM hT hr ha hc
    have hM2 := tM_b hM s2
    have hch : (nxq t.n l (l2 :: L) && chn t.n (l2 :: L)) = true := hch
    rw [Bool.and_eq_true] at hch
    obtain ⟨hc1, hc3⟩ := hch
    obtain ⟨g, hg, hgl⟩ : ∃ g, nxf t.n (gl l) = some g ∧ tl g t.n 0 = l2 := by
      unfold nxq at hc1
      cases hq : nxf t.n (gl l) with
      | none => rw [hq] at hc1; cases hc1
      | some g => rw [hq] at hc1; exact ⟨g, rfl, leq_eq hc1⟩
    obtain ⟨r3, s3, w3, e3⟩ := (x_nextRow (d := d) s_E ok hM2 hr2).2 g hg
    have s3' : sE bP r2 r3 := sE_mo s3 (fun a k h => Or.inl h)
    have w3' : rW t (gl l2) r3 := fun k hk => by
      have e : gl l2 k = g k := by
        unfold gl
        rw [← hgl, tl_get _ _ _ hk, Nat.zero_add]
      rw [e]
      exact w3 k hk
    have ha3 : aR t.n (fb1 val acc l) r3 := by
      cases hq : fb1 val acc l with
      | none =>
        rw [hq] at ha2
        show r3 101 15 = -1
        rw [s3 _ _ (by unfold p106; omega)]
        exact ha2
      | some y =>
        rw [hq] at ha2
        obtain ⟨h1, h2, h3⟩ := ha2
        exact ⟨by rw [s3 _ _ (by unfold p106; omega)]; exact h1, h2, fun k hk => by rw [s3 _ _ (by unfold p106; omega)]; exact h3 k hk⟩
    obtain ⟨r4, s4, a4, c4, e4⟩ := ih l2 (fb1 val acc l) (cnt + (if val l ≤ G then 1 else 0)) r3 (.int (nI (val l))) w5 (fun l' hl' => hvl l' (List.mem_cons_of_mem _ hl')) hc3 (tM_b hM2 s3') (guT_b (guT_b hT s2) s3') w3' ha3 (by rw [s3 _ _ (by unfold p106; omega)]; exact hc2)
    refine ⟨r4, sE_tr s2 (sE_tr s3' s4), a4, ?_, fun Q => ?_⟩
    · rw [c4, Nat.add_assoc]
      rfl
    · refine (f v4 Q).trans ?_
      refine (e3 _).trans ?_
      refine (sg_X10_goThrough_142 (d := d + 1) s_E).trans ?_
      exact e4 Q
def gtP : Nat → Nat → Prop := fun a k => bP a k ∨ gfP a k
theorem gtS (s : sE gtP r r') : sE SM r r' := sE_mo s (fun a k h => by unfold gtP bP gfP at h; unfold SM; omega)
theorem x_goThrough (s_E : oE E) (ok : tOK t) (hM : tM t r) (xo : xOK X) (hX : xM X r) {b G : Nat} (hb : b < 2) (hG : G < 2 ^ 31) {val : List Nat → Nat} (hvb : ∀ l, l ∈ pmA t.n t.n 0 → val l < 10000)
    (hv : ∀ l r, tM t r → guT t X r → rW t (gl l) r → ∃ r', sE (fun a _ => a = 108) r r' ∧ ∀ Q, wX (d + 53) (191 + b) [.ref 101] (mkH E r) Q = Q (some (.int (nI (val l)))) (mkH E r')) :
    ∃ r', sE SM r r' ∧ aR t.n (fbs val (pmA t.n t.n 0) none) r' ∧ r' 101 16 = nI (ctl val G (pmA t.n t.n 0)) ∧ ∀ Q, wX (d + 54) 206 [.ref 101, .int (nI b), .int (nI G)] (mkH E r) Q = Q none (mkH E r') := by
  have hn := ok.n
  obtain ⟨r1, s1, g1, e1⟩ := x_findGuesses (d := d) s_E ok hM xo hX
  have hM1 := tM_s hM (gfS s1)
  have first : ∀ k i r, i + k = t.n → tM t r → guT t X r → (∀ j, j < i → r 106 j = nI j) → ∃ r', sE bP r r' ∧ (∀ j, j < t.n → r' 106 j = nI j) ∧ aR t.n none r' ∧ r' 101 16 = nI 0 ∧ ∀ v4 v5 Q, wG (d + 53) 206 (6, [.ref 101, .int (nI b), .int (nI G), .int (nI i), v4, v5], [], mkH E r) Q = wG (d + 53) 206 (41, [.ref 101, .int (nI b), .int (nI G), .int 1, v4, v5], [], mkH E r') Q := by
    intro k
    induction k with
    | zero =>
      intro i r hi hM hT hj
      have hlt : ¬ nI i < r 102 0 := by rw [hM.n]; exact nI_nlt (by omega) (by omega)
      refine ⟨uI (uI r 101 15 (-1)) 101 16 0, sE_tr (sE_u (Or.inr (Or.inr (Or.inr ⟨rfl, Or.inl rfl⟩)))) (sE_u (Or.inr (Or.inr (Or.inr ⟨rfl, Or.inr rfl⟩)))), fun j hjn => ?_, ?_, ?_, fun v4 v5 Q => ?_⟩
      · rw [uI_at, if_neg (by omega), uI_at, if_neg (by omega)]; exact hj j (by omega)
      · show (uI (uI r 101 15 (-1)) 101 16 0) 101 15 = -1
        rw [uI_at, if_neg (by omega), uI_at, if_pos ⟨rfl, rfl⟩]
      · rw [uI_at, if_pos ⟨rfl, rfl⟩]; rfl
      · refine (sg_X10_goThrough_6 s_E (fun h => absurd h hlt)).trans ?_
        rw [if_neg hlt]
    | succ k ih =>
      intro i r hi hM hT hj
      have hit : i < t.n := by omega
      have s1 : sE bP r (uI r 106 i (nI i)) := sE_u (Or.inl rfl)
      obtain ⟨r', s2, j2, a2, c2, e2⟩ := ih (i + 1) (uI r 106 i (nI i)) (by omega) (tM_b hM s1) (guT_b hT s1) (fun j hjn => by
        rw [uI_at]
        by_cases q : j = i
        · rw [q, if_pos ⟨rfl, rfl⟩]
        · rw [if_neg (by omega)]; exact hj j (by omega))
      refine ⟨r', sE_tr s1 s2, j2, a2, c2, fun v4 v5 Q => ?_⟩
      refine (sg_X10_goThrough_6 s_E (fun _ => ix_n (show i < 7 by omega) (by decide))).trans ?_
      rw [hM.n, if_pos (nI_lt hit (by omega)), nI_clamp (by omega), ← nI_succ]
      exact e2 v4 v5 Q
  obtain ⟨r2, s2, j2, a2, c2, e2⟩ := first t.n 0 r1 (by omega) hM1 g1 (fun j hj => absurd hj (Nat.not_lt_zero _))
  have hck := chn_ok t.n (by omega)
  rw [Bool.and_eq_true] at hck
  obtain ⟨hch, hhd⟩ := hck
  cases hL : pmA t.n t.n 0 with
  | nil => rw [hL] at hhd; cases hhd
  | cons l L =>
    rw [hL] at hch hhd hvb
    have hl : l = tl (fun k => k) t.n 0 := leq_eq hhd
    have w2 : rW t (gl l) r2 := fun k hk => by
      have e : gl l k = k := by
        unfold gl
        rw [hl, tl_get _ _ _ hk, Nat.zero_add]
      rw [e]
      exact ⟨j2 k hk, hk⟩
    obtain ⟨r3, s3, a3, c3, e3⟩ := x_gtLoop (d := d + 52) (X := X) (val := val) s_E ok hb hG hv L l none 0 r2 (.retAddr 0) (.retAddr 0) hvb hch (tM_b hM1 s2) (guT_b g1 s2) w2 a2 c2
    rw [Nat.zero_add] at c3
    refine ⟨r3, sE_tr (gfS s1) (sE_tr (gtS (sE_mo s2 (fun _ _ h => Or.inl h))) (gtS (sE_mo s3 (fun _ _ h => Or.inl h)))), a3, c3, fun Q => ?_⟩
    refine (en_X10_goThrough (d := d + 53) s_E).trans ?_
    refine (e1 _).trans ?_
    refine (sg_X10_goThrough_4 (d := d + 53) s_E).trans ?_
    refine (e2 _ _ Q).trans ?_
    exact e3 Q
end GT
