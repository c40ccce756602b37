/-! the class reads: the innermost, a whole text -/
section RI2
variable {d : Nat} {E : pEv} {b : Nat → Nat} {n u p : Nat} {r r' : Nat → Nat → Int32} {Q : Option Value → pH → Prop} {cd : List Int32} {x y z : Int32}
theorem nm_999 : nm u 999 = 9 := by unfold nm; split <;> rfl
theorem hI_eq {c k : Nat} (hc : c < 256 ∨ c = 999) (hk : k < 256) : (hI c = nI k) = (c = k) := by
  refine propext ⟨fun h => ?_, fun h => by rw [h]; exact hI_n hk⟩
  rcases hc with h2 | rfl
  · rw [hI_n h2] at h
    exact (nI_eq (by omega) (by omega)).mp h
  · have : ∀ k, k < 256 → ¬ hI 999 = nI k := by decide +kernel
    exact absurd h (this k hk)
theorem rd_ix (s_E : oE E) {c : Nat} (hc : c < 256) (hu : u < 2) (h9 : r 9 0 = nI (u + 1)) : wX (d + 6) 248 [.ref (r 9 0).toNatClampNeg, .int (((nI c).toUInt32 % 65536).toInt32)] (mkH E r) Q = Q (some (.int (if nm u c < 3 then nI (nm u c) else -1))) (mkH E r) := by
  rw [h9, nI_clamp (by omega), ch_n hc]
  match u, hu with
  | 0, _ => exact x_ix_1 s_E hc
  | 1, _ => exact x_ix_2 s_E hc
  | u + 2, h => exact absurd h (by omega)
/-- behind digits and names -/
theorem rd_rest (s_E : oE E) {x1 : Int32} (hT : rT b n u r) (hS : rS p cd r) (hp : p ≤ n) (q1 : ¬ dg (hr b n p) = true) (q2 : ¬ nm u (hr b n p) < 3) : wX (d + 7) 50 [.ref 81, .int x1] (mkH E r) Q = if x1 < 5 then (if hr b n p = 33 then wX (d + 6) 51 [.ref 81, .int (x1 + 1)] (mkH E (uI r 81 2 (r 81 2 + 1))) (fun v h' => wG (d + 6) 50 (104, [.ref 81, .int x1, .int (hI (hr b n p)), .int (-1)], pv v [], h') Q) else if hr b n p = 40 then wX (d + 6) 49 [.ref 81, .int 0, .int (x1 + 1)] (mkH E (uI r 81 2 (r 81 2 + 1))) (fun v h' => wG (d + 6) 50 (115, [.ref 81, .int x1, .int (hI (hr b n p)), .int (-1)], pv v [], h') Q) else Q (some (.int 0)) (mkH E r)) else Q (some (.int 0)) (mkH E r) := by
  have hc := rT_c hT p
  have hh := rd_here hT hS.1 hp
  have e33 := hI_eq hc (show 33 < 256 by decide)
  have e40 := hI_eq hc (show 40 < 256 by decide)
  have sh : ∀ (A B : Prop), (if hI (hr b n p) = 33 then (if hI (hr b n p) = 33 then A else B) else if hI (hr b n p) = 40 then (if hI (hr b n p) = 33 then A else B) else Q (some (.int 0)) (mkH E r)) = (if hr b n p = 33 then A else if hr b n p = 40 then B else Q (some (.int 0)) (mkH E r)) := by
    intro A B
    have e33 : (hI (hr b n p) = 33) = (hr b n p = 33) := e33
    have e40 : (hI (hr b n p) = 40) = (hr b n p = 40) := e40
    simp only [e33, e40]
    by_cases h1 : hr b n p = 33
    · simp only [if_pos h1]
    · by_cases h2 : hr b n p = 40
      · simp only [if_neg h1, if_pos h2]
      · simp only [if_neg h1, if_neg h2]
  refine (en_X3_readsInnermost (d := d + 6) s_E).trans ?_
  refine (x_X3_here (d := d + 4) s_E).trans ?_
  rw [hh]
  refine (sg_X3_readsInnermost_4 (d := d + 6) s_E).trans ?_
  refine (x_X3_isDigit (d := d + 5) s_E).trans ?_
  rw [dg_t hc, if_neg q1]
  refine (sg_X3_readsInnermost_9 (d := d + 6) s_E (fun _ _ => ?_)).trans ?_
  · rw [hT.2.2.2.1, nI_clamp (by have := hT.2.2.2.2; omega)]
    match u, hT.2.2.2.2 with
    | 0, _ => rfl
    | 1, _ => rfl
    | u + 2, h => exact absurd h (by omega)
  rw [if_pos rfl]
  rcases hc with hc | hc
  · have hn : ¬ hI (hr b n p) < 0 := by rw [hI_n hc]; exact nI_pos (by omega)
    rw [if_neg hn]
    have := rd_ix (d := d) (r := r) (Q := fun v h' => wG (d + 6) 50 (35, [.ref 81, .int x1, .int (hI (hr b n p)), .retAddr 0], pv v [], h') Q) s_E hc hT.2.2.2.2 hT.2.2.2.1
    rw [← hI_n hc] at this
    refine this.trans ?_
    rw [if_neg q2]
    refine (sg_X3_readsInnermost_35 (d := d + 6) s_E).trans ?_
    rw [if_pos (by decide)]
    rw [sh]
  · have hn : hI (hr b n p) < 0 := by rw [hc]; decide
    rw [if_pos hn, sh]
theorem rd_dn (s_E : oE E) {x1 : Int32} (hT : rT b n u r) (hS : rS p cd r) (hp : p ≤ n) (hl : cd.length ≤ p) :
    (dg (hr b n p) = true → rdO E n (p + 1) p 0 cd r (wX (d + 7) 50 [.ref 81, .int x1] (mkH E r)) (.inr ((nb b n 4 p 0).1, [nI (nb b n 4 p 0).2], nI (nb b n 4 p 0).2))) ∧
    (¬ dg (hr b n p) = true → nm u (hr b n p) < 3 → ∀ v, rdO E n (p + 1) p 0 cd r (wX (d + 7) 50 [.ref 81, .int x1] (mkH E r)) (.inr (p + 1, [-1 - nI (nm u (hr b n p))], v))) := by
  have hc := rT_c hT p
  have hh := rd_here hT hS.1 hp
  have h50 := hT.2.2.1
  have pre : ∀ Q, wX (d + 7) 50 [.ref 81, .int x1] (mkH E r) Q = wG (d + 6) 50 (9, [.ref 81, .int x1, .int (hI (hr b n p)), .retAddr 0], [.int (if dg (hr b n p) then 1 else 0)], mkH E r) Q := by
    intro Q
    refine (en_X3_readsInnermost (d := d + 6) s_E).trans ?_
    refine (x_X3_here (d := d + 4) s_E).trans ?_
    rw [hh]
    refine (sg_X3_readsInnermost_4 (d := d + 6) s_E).trans ?_
    refine (x_X3_isDigit (d := d + 5) s_E).trans ?_
    rw [dg_t hc]
    rfl
  have b0 : (sB (r 9 0).toNatClampNeg = .inl 11) := by
    rw [hT.2.2.2.1, nI_clamp (by have := hT.2.2.2.2; omega)]
    match u, hT.2.2.2.2 with
    | 0, _ => rfl
    | 1, _ => rfl
    | u + 2, h => exact absurd h (by omega)
  refine ⟨fun q1 => ?_, fun q1 q2 v => ?_⟩
  · have hpn : p < n := hr_lt (fun e => by rw [e] at q1; exact absurd q1 (by decide))
    obtain ⟨r1, s1, t1, e1⟩ := rd_num (d := d + 3) (cd := cd) s_E 4 0 p 0 r (by omega) hT hS hp (by omega)
    have hb := nb_le (b := b) 4 p 0 hp
    have hb1 : p < (nb b n 4 p 0).1 := nb_1 (b := b) (n := n) (p := p) (k := 3) (v := 0) q1
    refine ⟨hb1, hb.2, ?_, r1, s1, t1, fun Q => ?_⟩
    · show 1 + p ≤ (nb b n 4 p 0).1 + 0
      omega
    · rw [pre, if_pos q1]
      refine (sg_X3_readsInnermost_9 (d := d + 6) s_E (fun _ _ => b0)).trans ?_
      rw [if_neg (by decide)]
      refine (en_X3_readNumber (d := d + 5) s_E).trans ?_
      refine (e1 _).trans ?_
      exact sg_X3_readsInnermost_16 (d := d + 6) s_E
  · have h9 : hr b n p ≠ 999 := fun e => by rw [e, nm_999] at q2; omega
    have hpn : p < n := hr_lt h9
    have hc6 : hr b n p < 256 := by omega
    have s1 : sE rdP r (uI r 81 2 (r 81 2 + 1)) := sE_u (Or.inl ⟨rfl, rfl⟩)
    obtain ⟨r2, e2, s2, t2⟩ := rS_add (v := -1 - nI (nm u (hr b n p))) (rS_at hS (nI_succ p).symm) (by omega)
    refine ⟨Nat.le_refl _, hpn, ?_, r2, sE_tr s1 s2, t2, fun Q => ?_⟩
    · show 1 + p ≤ p + 1 + 0
      omega
    · rw [pre, if_neg q1]
      refine (sg_X3_readsInnermost_9 (d := d + 6) s_E (fun _ _ => b0)).trans ?_
      have hn : ¬ hI (hr b n p) < 0 := by rw [hI_n hc6]; exact nI_pos (by omega)
      rw [if_pos rfl, if_neg hn]
      have := rd_ix (d := d) (r := r) (Q := fun v h' => wG (d + 6) 50 (35, [.ref 81, .int x1, .int (hI (hr b n p)), .retAddr 0], pv v [], h') Q) s_E hc6 hT.2.2.2.2 hT.2.2.2.1
      rw [← hI_n hc6] at this
      refine this.trans ?_
      rw [if_pos q2]
      refine (sg_X3_readsInnermost_35 (d := d + 6) s_E).trans ?_
      rw [if_neg (nI_pos (by omega))]
      refine (x_X4_add (d := d + 5) (c_h0 := 50) s_E (oR rfl)).trans ?_
      rw [e2]
      exact sg_X3_readsInnermost_60 (d := d + 6) s_E
theorem rd_in0 (s_E : oE E) : ∀ d, rdC E b n u 50 [.ref 81, .int (nI 5)] (d + 7) (inR b n u x y z 0) := by
  intro d p cd r hT hS hp hl
  have h := rd_dn (d := d) (x1 := nI 5) s_E hT hS hp hl
  unfold inR
  by_cases q1 : dg (hr b n p) = true
  · rw [if_pos q1]; exact h.1 q1
  · rw [if_neg q1]
    by_cases q2 : nm u (hr b n p) < 3
    · rw [if_pos q2]; exact h.2 q1 q2 _
    · rw [if_neg q2]
      refine ⟨hp, r, sE_rf, hS.1, fun Q => ?_⟩
      rw [rd_rest s_E hT hS hp q1 q2, if_neg (by decide)]
theorem rd_in1 (s_E : oE E) {o D k : Nat} (ho : o < 5) (hN : ∀ d, rdC E b n u 50 [.ref 81, .int (nI (o + 1))] (d + D + 5) (inR b n u x y z k)) (hL : ∀ d, rdC E b n u 49 [.ref 81, .int 0, .int (nI (o + 1))] (d + D + 6) (ttR b n (inR b n u x y z k))) : ∀ d, rdC E b n u 50 [.ref 81, .int (nI o)] (d + D + 7) (inR b n u x y z (k + 1)) := by
  intro d p cd r hT hS hp hl
  have h := rd_dn (d := d + D) (x1 := nI o) s_E hT hS hp hl
  have h50 := hT.2.2.1
  unfold inR
  by_cases q1 : dg (hr b n p) = true
  · rw [if_pos q1]; exact h.1 q1
  · rw [if_neg q1]
    by_cases q2 : nm u (hr b n p) < 3
    · rw [if_pos q2]; exact h.2 q1 q2 _
    · rw [if_neg q2]
      have pre : ∀ Q, _ = _ := fun Q => rd_rest (d := d + D) (x1 := nI o) (Q := Q) s_E hT hS hp q1 q2
      simp only [if_pos (show nI o < (5 : Int32) from @nI_lt o 5 ho (by decide)), ← nI_succ] at pre
      have s1 : sE rdP r (uI r 81 2 (r 81 2 + 1)) := sE_u (Or.inl ⟨rfl, rfl⟩)
      have t1 := rS_at hS (nI_succ p).symm
      by_cases q3 : hr b n p = 33
      · rw [if_pos q3]
        simp only [if_pos q3] at pre
        have hpn : p < n := hr_lt (by rw [q3]; decide)
        have h1 := hN d (p + 1) cd _ (rT_s hT s1) t1 hpn (by omega)
        cases hsp : inR b n u x y z k (p + 1) with
        | inl f =>
          rw [hsp] at h1
          obtain ⟨hf, r', s2, e2, g2⟩ := h1
          refine ⟨hf, r', sE_tr s1 s2, e2, fun Q => ?_⟩
          rw [pre]
          refine (en_X3_readsNegated (d := d + D + 5) s_E).trans ?_
          refine (g2 _).trans ?_
          refine (sg_X3_readsNegated_5 (d := d + D + 5) s_E).trans ?_
          rw [if_pos rfl]
          exact sg_X3_readsInnermost_104 (d := d + D + 6) s_E rfl
        | inr w =>
          obtain ⟨q, c2, v⟩ := w
          rw [hsp] at h1
          obtain ⟨a1, a2, a3, r2, s2, t2, g2⟩ := h1
          have a1 : p + 1 + 1 ≤ q := a1
          have a2 : q ≤ n := a2
          have a3 : c2.length + (p + 1) ≤ q + 0 := a3
          obtain ⟨r3, e3, s3, t3⟩ := rS_add (v := -33) t2 (by rw [List.length_append]; show _ + c2.length < 50; omega)
          rw [List.append_assoc] at t3
          refine ⟨by show p + 1 ≤ q; omega, a2, ?_, r3, sE_tr s1 (sE_tr s2 s3), t3, fun Q => ?_⟩
          · show (c2 ++ [-33]).length + p ≤ q + 0
            rw [List.length_append]
            show c2.length + 1 + p ≤ q + 0
            omega
          · rw [pre]
            refine (en_X3_readsNegated (d := d + D + 5) s_E).trans ?_
            refine (g2 _).trans ?_
            refine (sg_X3_readsNegated_5 (d := d + D + 5) s_E).trans ?_
            rw [if_neg (by decide)]
            refine (x_X4_add (d := d + D + 4) (c_h0 := 50) s_E (oR rfl)).trans ?_
            rw [e3]
            refine (sg_X3_readsNegated_19 (d := d + D + 5) s_E).trans ?_
            exact sg_X3_readsInnermost_104 (d := d + D + 6) s_E rfl
      · rw [if_neg q3]
        simp only [if_neg q3] at pre
        by_cases q4 : hr b n p = 40
        · rw [if_pos q4]
          simp only [if_pos q4] at pre
          have hpn : p < n := hr_lt (by rw [q4]; decide)
          have h1 := hL d (p + 1) cd _ (rT_s hT s1) t1 hpn (by omega)
          cases hsp : ttR b n (inR b n u x y z k) (p + 1) with
          | inl f =>
            rw [hsp] at h1
            obtain ⟨hf, r', s2, e2, g2⟩ := h1
            refine ⟨hf, r', sE_tr s1 s2, e2, fun Q => ?_⟩
            rw [pre]
            refine (g2 _).trans ?_
            refine (sg_X3_readsInnermost_115 (d := d + D + 6) s_E).trans ?_
            rw [if_pos rfl]
          | inr w =>
            obtain ⟨q, c2, v⟩ := w
            rw [hsp] at h1
            obtain ⟨a1, a2, a3, r2, s2, t2, g2⟩ := h1
            have a1 : p + 1 + 1 ≤ q := a1
            have a2 : q ≤ n := a2
            have a3 : c2.length + (p + 1) ≤ q + 0 := a3
            have t2 : rS q (cd ++ c2) r2 := t2
            have hT2 := rT_s hT (sE_tr s1 s2)
            have hh2 := rd_here hT2 t2.1 a2
            have hc2 := rT_c hT2 q
            have e41 : (hI (hr b n q) = 41) = (hr b n q = 41) := hI_eq hc2 (show 41 < 256 by decide)
            have pr2 : ∀ Q, wX (d + D + 7) 50 [.ref 81, .int (nI o)] (mkH E r) Q = wG (d + D + 6) 50 (122, [.ref 81, .int (nI o), .int (hI (hr b n p)), .int (-1)], [.int (f_X3_readsClosing r2)], mkH E (g_X3_readsClosing r2)) Q := by
              intro Q
              rw [pre]
              refine (g2 _).trans ?_
              refine (sg_X3_readsInnermost_115 (d := d + D + 6) s_E).trans ?_
              rw [if_neg (by decide)]
              exact x_X3_readsClosing (d := d + D + 3) s_E
            unfold f_X3_readsClosing g_X3_readsClosing at pr2
            simp only [hh2, e41] at pr2
            show rdO E n (p + 1) p 0 cd r _ (if hr b n q = 41 then .inr (q + 1, c2, v) else .inl q)
            by_cases q5 : hr b n q = 41
            · rw [if_pos q5]
              simp only [if_pos q5] at pr2
              have hqn : q < n := hr_lt (by rw [q5]; decide)
              refine ⟨by show p + 1 ≤ q + 1; omega, hqn, by show c2.length + p ≤ q + 1 + 0; omega, _, sE_tr s1 (sE_tr s2 (sE_u (Or.inl ⟨rfl, rfl⟩))), rS_at t2 (nI_succ q).symm, fun Q => ?_⟩
              rw [pr2]
              refine (sg_X3_readsInnermost_122 (d := d + D + 6) s_E).trans ?_
              rw [if_neg (by decide)]
            · rw [if_neg q5]
              simp only [if_neg q5] at pr2
              refine ⟨a2, r2, sE_tr s1 s2, t2.1, fun Q => ?_⟩
              rw [pr2]
              refine (sg_X3_readsInnermost_122 (d := d + D + 6) s_E).trans ?_
              rw [if_pos rfl]
        · rw [if_neg q4]
          simp only [if_neg q4] at pre
          exact ⟨hp, r, sE_rf, hS.1, pre⟩
theorem rd_in (s_E : oE E) : ∀ k o, o + k = 5 → ∀ d, rdC E b n u 50 [.ref 81, .int (nI o)] (d + 7 * k + 7) (inR b n u x y z k) := by
  intro k
  induction k with
  | zero =>
    intro o ho d
    obtain rfl : o = 5 := by omega
    exact rd_in0 s_E (d + 7 * 0)
  | succ k ih =>
    intro o ho d
    have h1 := ih (o + 1) (by omega)
    have hN : ∀ d, rdC E b n u 50 [.ref 81, .int (nI (o + 1))] (d + (7 * k + 7) + 5) (inR b n u x y z k) := fun d => by
      have := h1 (d + 5)
      rw [show d + 5 + 7 * k + 7 = d + (7 * k + 7) + 5 by omega] at this
      exact this
    have hL : ∀ d, rdC E b n u 49 [.ref 81, .int 0, .int (nI (o + 1))] (d + (7 * k + 7) + 6) (ttR b n (inR b n u x y z k)) := fun d => by
      have h2 : ∀ d, rdC E b n u 50 [.ref 81, .int (nI (o + 1))] (d + (7 * k + 6) + 1) (inR b n u x y z k) := fun d => by
        have := h1 d
        rw [show d + 7 * k + 7 = d + (7 * k + 6) + 1 by omega] at this
        exact this
      have := rd_tt s_E h2 d
      rw [show d + (7 * k + 6) + 7 = d + (7 * k + 7) + 6 by omega] at this
      exact this
    have := rd_in1 (D := 7 * k + 7) s_E (by omega) hN hL d
    rw [show d + (7 * k + 7) + 7 = d + 7 * (k + 1) + 7 by omega] at this
    exact this
/-- the whole text -/
theorem x_faultIn (s_E : oE E) (h1 : r 34 1 = nI n) (h2 : ∀ k, k < n → r 35 k = nI (b k) ∧ b k < 256) (h3 : n ≤ 50) (hu : u < 2) : ∃ r', sE (fun a k => (a = 9 ∧ k = 0) ∨ rdP a k) r r' ∧ match txR b n u x y z with
    | .inl f => f ≤ n ∧ ∀ Q, wX (d + 50) 46 [.ref 81, .int (nI u)] (mkH E r) Q = Q (some (.int (nI f))) (mkH E r')
    | .inr w => w.1.length ≤ 50 ∧ (r' 82 1 = nI w.1.length ∧ ∀ k (h : k < w.1.length), r' 83 k = w.1[k]) ∧ ∀ Q, wX (d + 50) 46 [.ref 81, .int (nI u)] (mkH E r) Q = Q (some (.int (-1))) (mkH E r') := by
  have s0 : ∀ v w x, sE (fun a k => (a = 9 ∧ k = 0) ∨ rdP a k) r (uI (uI (uI r 9 0 v) 81 2 w) 82 1 x) := fun v w x => sE_tr (sE_tr (sE_u (Or.inl ⟨rfl, rfl⟩)) (sE_u (Or.inr (Or.inl ⟨rfl, rfl⟩)))) (sE_u (Or.inr (Or.inr (Or.inl ⟨rfl, rfl⟩))))
  have hT : rT b n u (uI (uI (uI r 9 0 (nI (u + 1))) 81 2 0) 82 1 0) := by
    refine ⟨?_, fun k hk => ?_, h3, ?_, hu⟩
    · rw [s0 _ _ _ _ _ (by unfold rdP; omega)]; exact h1
    · rw [s0 _ _ _ _ _ (by unfold rdP; omega)]; exact h2 k hk
    · rw [uI_at, if_neg (by omega), uI_at, if_neg (by omega), uI_at, if_pos ⟨rfl, rfl⟩]
  have hS : rS 0 [] (uI (uI (uI r 9 0 (nI (u + 1))) 81 2 0) 82 1 0) := by
    refine ⟨?_, ?_, fun k hk => absurd hk (Nat.not_lt_zero _)⟩
    · rw [uI_at, if_neg (by omega), uI_at, if_pos ⟨rfl, rfl⟩]; rfl
    · rw [uI_at, if_pos ⟨rfl, rfl⟩]; rfl
  have pre : ∀ Q, wX (d + 50) 46 [.ref 81, .int (nI u)] (mkH E r) Q = wX (d + 49) 49 [.ref 81, .int 0, .int (nI 0)] (mkH E (uI (uI (uI r 9 0 (nI (u + 1))) 81 2 0) 82 1 0)) (fun v h' => wG (d + 49) 46 (33, [.ref 81, .int (nI u), .retAddr 0], pv v [], h') Q) := by
    intro Q
    refine (en_X3_faultIn (d := d + 49) s_E).trans ?_
    have e : ∀ v, wX (d + 49) 66 [.ref 82] (mkH E (uI (uI r 9 0 v) 81 2 0)) (fun v h' => wG (d + 49) 46 (27, [.ref 81, .int (nI u), .retAddr 0], pv v [], h') Q) = wX (d + 49) 49 [.ref 81, .int 0, .int (nI 0)] (mkH E (uI (uI (uI r 9 0 v) 81 2 0) 82 1 0)) (fun v h' => wG (d + 49) 46 (33, [.ref 81, .int (nI u), .retAddr 0], pv v [], h') Q) := by
      intro v
      refine (x_X4_clear (d := d + 48) (c_h0 := 50) s_E (oR rfl)).trans ?_
      exact sg_X3_faultIn_27 (d := d + 49) s_E
    match u, hu with
    | 0, _ => rw [if_pos (show nI 0 = 0 from rfl)]; exact e _
    | 1, _ => rw [if_neg (show ¬ nI 1 = 0 from by decide)]; exact e _
    | u + 2, h => exact absurd h (by omega)
  have hh := rd_in (b := b) (n := n) (u := u) (x := x) (y := y) (z := z) s_E 5 0 (by omega)
  have h2' : ∀ d, rdC E b n u 50 [.ref 81, .int (nI 0)] (d + 41 + 1) (inR b n u x y z 5) := fun d => hh d
  have h4 := rd_tt s_E h2' (d + 1) 0 [] _ hT hS (Nat.zero_le _) (Nat.zero_le _)
  unfold txR
  cases hsp : ttR b n (inR b n u x y z 5) 0 with
  | inl f =>
    rw [hsp] at h4
    obtain ⟨hf, r', s1, e1, g1⟩ := h4
    refine ⟨r', sE_tr (s0 _ _ _) (sE_mo s1 (fun _ _ h => Or.inr h)), hf, fun Q => ?_⟩
    rw [pre]
    refine (g1 _).trans ?_
    refine (sg_X3_faultIn_33 (d := d + 49) s_E).trans ?_
    rw [if_pos rfl, e1]
  | inr w =>
    obtain ⟨q, c2, v⟩ := w
    rw [hsp] at h4
    obtain ⟨a1, a2, a3, r', s1, t1, g1⟩ := h4
    have a2 : q ≤ n := a2
    have a3 : c2.length + 0 ≤ q + 0 := a3
    have t1 : rS q c2 r' := t1
    have hT' := rT_s hT s1
    refine ⟨r', sE_tr (s0 _ _ _) (sE_mo s1 (fun _ _ h => Or.inr h)), ?_⟩
    have fin : ∀ Q, wX (d + 50) 46 [.ref 81, .int (nI u)] (mkH E r) Q = if q = n then Q (some (.int (-1))) (mkH E r') else Q (some (.int (nI q))) (mkH E r') := by
      intro Q
      rw [pre]
      refine (g1 _).trans ?_
      refine (sg_X3_faultIn_33 (d := d + 49) s_E).trans ?_
      have e : (nI q = nI n) = (q = n) := propext (nI_eq (by omega) (by omega))
      rw [if_neg (by decide), t1.1, hT'.1]
      simp only [e]
    show match (if q < n then (.inl q : Nat ⊕ (List Int32 × Int32)) else .inr (c2, v)) with
    | .inl f => f ≤ n ∧ ∀ Q, wX (d + 50) 46 [.ref 81, .int (nI u)] (mkH E r) Q = Q (some (.int (nI f))) (mkH E r')
    | .inr w => w.1.length ≤ 50 ∧ (r' 82 1 = nI w.1.length ∧ ∀ k (h : k < w.1.length), r' 83 k = w.1[k]) ∧ ∀ Q, wX (d + 50) 46 [.ref 81, .int (nI u)] (mkH E r) Q = Q (some (.int (-1))) (mkH E r')
    by_cases hq : q < n
    · rw [if_pos hq]
      refine ⟨a2, fun Q => ?_⟩
      rw [fin, if_neg (by omega)]
    · rw [if_neg hq]
      refine ⟨by show c2.length ≤ 50; omega, t1.2, fun Q => ?_⟩
      rw [fin, if_pos (by omega)]
end RI2
