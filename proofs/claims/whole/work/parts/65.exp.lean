/-! explained, on both sides -/
def fsK (p : Nat → Bool) : Nat → Nat → Nat
  | 0, _ => 999
  | k + 1, i => if p i = true then i else fsK p k (i + 1)
theorem fsK_end {p : Nat → Bool} : ∀ k i, i + k < 999 → fsK p (k + 1) i = if fsK p k i = 999 then (if p (i + k) = true then i + k else 999) else fsK p k i := by
  intro k
  induction k with
  | zero =>
    intro i _
    rfl
  | succ k ih =>
    intro i h
    show (if p i = true then i else fsK p (k + 1) (i + 1)) = if (if p i = true then i else fsK p k (i + 1)) = 999 then _ else (if p i = true then i else fsK p k (i + 1))
    by_cases q : p i = true
    · rw [if_pos q, if_pos q, if_neg (by omega)]
    · rw [if_neg q, if_neg q, ih (i + 1) (by omega), show i + 1 + k = i + (k + 1) by omega]
def exD (p : Nat → Bool) : Nat → Nat → Nat
  | 0, b => b
  | a + 1, b => exD p a (if p a = true then a else b)
theorem exD_fs {p : Nat → Bool} : ∀ a b, a < 900 → exD p a b = if fsK p a 0 = 999 then b else fsK p a 0 := by
  intro a
  induction a with
  | zero => intro b _; rfl
  | succ a ih =>
    intro b ha
    show exD p a (if p a = true then a else b) = _
    rw [ih _ (by omega), fsK_end a 0 (by omega), Nat.zero_add]
    by_cases q : fsK p a 0 = 999
    · rw [if_pos q, if_pos q]
      by_cases q2 : p a = true
      · rw [if_pos q2, if_pos q2, if_neg (by omega)]
      · rw [if_neg q2, if_neg q2, if_pos rfl]
    · rw [if_neg q, if_neg q, if_neg q]
def exP (t : Th) (j g : Nat) (k : Nat) : Bool := decide (oc t (wl t) j k = g)
section EX
variable {d : Nat} {E : pEv} {ro r1 r r' : Nat → Nat → Int32} {t : Th} {X : Tx} {Q : Option Value → pH → Prop}
theorem Kx_ok (ok : tOK t) {j k : Nat} (hk : k < 7) : tOK (Kx t j k) := by
  refine ⟨ok.n, fun i hi => ?_, ok.M, ok.C, ok.T, ok.A, ok.P, ok.F, ok.G, ok.W, ok.o, ok.oi, ok.b⟩
  show (if 0 = 0 ∧ i = j then k else t.K i) < 7
  split
  · exact hk
  · exact ok.K i hi
theorem hp_Kx (ok : tOK t) {j k : Nat} (hk : k < 7) : hp (Kx t j k) = oc t (wl t) j k := by
  refine it_congr (n := t.n) (fun i a hi => ?_) t.n 0 0 (by omega)
  have hn := ok.n
  show ocf (Kx t j k) (wl (Kx t j k)) 7 0 i a = ocf t (wl t) j k i a
  have e1 : wl (Kx t j k) = wl t := rfl
  unfold ocf
  rw [e1]
  show a ||| (if t.C i = 0 then bt (wl t) i else cO (t.M i) (t.C i) (bc (t.C i &&& a)) (if i = 7 then 0 else (if 0 = 0 ∧ i = j then k else t.K i))) <<< i = _
  rw [if_neg (show ¬ i = 7 by omega)]
  by_cases q : i = j
  · rw [if_pos (show 0 = 0 ∧ i = j from ⟨rfl, q⟩), if_pos q]
  · rw [if_neg (show ¬ (0 = 0 ∧ i = j) from fun h => q h.2), if_neg q]
theorem tM_Kx (hM : tM t r) {j k : Nat} (hj : j < t.n) (hn : t.n ≤ 7) : tM (Kx t j k) (uI r 102 (10 + 10 * j) (nI k)) := by
  refine ⟨?_, ?_, ?_, ?_, ?_, ?_, ?_, ?_, ?_, ?_, ?_, ?_⟩
  · rw [uI_at, if_neg (by omega)]; exact hM.n
  · intro i hi
    rw [uI_at]
    show _ = nI (if 0 = 0 ∧ i = j then k else t.K i)
    by_cases q : i = j
    · rw [if_pos ⟨rfl, by omega⟩, if_pos ⟨rfl, q⟩]
    · rw [if_neg (by omega), if_neg (fun h => q h.2)]; exact hM.K i hi
  · intro i hi; rw [uI_at, if_neg (by omega)]; exact hM.M i hi
  · intro i hi; rw [uI_at, if_neg (by omega)]; exact hM.C i hi
  · intro i hi; rw [uI_at, if_neg (by omega)]; exact hM.T i hi
  · intro i hi; rw [uI_at, if_neg (by omega)]; exact hM.A i hi
  · intro i hi; rw [uI_at, if_neg (by omega)]; exact hM.P i hi
  · intro i hi hp; rw [uI_at, if_neg (by omega)]; exact hM.F i hi hp
  · intro i hi hp; rw [uI_at, if_neg (by omega)]; exact hM.G i hi hp
  · intro i hi; rw [uI_at, if_neg (by omega)]; exact hM.W i hi
  · intro i hi; rw [uI_at, if_neg (by omega)]; exact hM.o i hi
  · rw [uI_at, if_neg (by omega)]; exact hM.b
theorem uI_uI {a k : Nat} {v w : Int32} : uI (uI r a k v) a k w = uI r a k w := by
  funext b j
  rw [uI_at, uI_at, uI_at]
  by_cases q : b = a ∧ j = k
  · rw [if_pos q, if_pos q]
  · rw [if_neg q, if_neg q, if_neg q]
theorem uI_id {a k : Nat} {v : Int32} (h : r a k = v) : uI r a k v = r := by
  funext b j
  rw [uI_at]
  by_cases q : b = a ∧ j = k
  · rw [if_pos q, q.1, q.2, h]
  · rw [if_neg q]
theorem ro_explained (s_E : oE E) (ok : tOK t) {x y : Int32} : RO d E t X 119 [.ref 10, .int x, .int y] 219 [.ref 101, .int x, .int y] := by
  intro ro r1 hC hX hz hM hXM
  have hn := ok.n
  have h2n := p128 ok
  have hwl := wl_lt ok
  have pC : ∀ Q, wX (d + 70) 119 [.ref 10, .int x, .int y] (mkH E ro) Q = _ := fun Q => (en_X9_explained (d := d + 69) s_E).trans ((x_X9_stands (d := d + 67) s_E).trans (sg_X9_explained_5 (d := d + 69) s_E))
  have pM : ∀ Q, wX (d + 70) 219 [.ref 101, .int x, .int y] (mkH E r1) Q = _ := fun Q => (en_X10_explained (d := d + 69) s_E).trans ((x_X10_isScene (d := d + 67) s_E).trans (sg_X10_explained_5 (d := d + 69) s_E))
  have eA : (1 : Int32) <<< ((r1 102 0) &&& 31) - 1 = nI (2 ^ t.n - 1) := by
    rw [sh2n ok hM]
    obtain ⟨q, hq⟩ : ∃ q, 2 ^ t.n = q + 1 := ⟨2 ^ t.n - 1, by have := Nat.two_pow_pos t.n; omega⟩
    rw [hq, nI_pred]
    rfl
  have gM : f_X10_in y.toInt64 0 ((((1 : Int32) <<< ((r1 102 0) &&& 31)) - 1).toInt64) = f_X9_within y 0 (nI (2 ^ t.n - 1)) := by rw [eA]; exact in_l (a := 0)
  have gC : f_X9_isSet ro y = f_X9_within y 0 (nI (2 ^ t.n - 1)) := by unfold f_X9_isSet; rw [all_C ok hC]
  have eC1 : ∀ v3 v4 Q, wX (d + 69) 136 [.ref 10, .int (-1000000001)] (mkH E ro) (fun v h' => wG (d + 69) 119 (22, [.ref 10, .int x, .int y, v3, v4], pv v [], h') Q) = Q (some (.int (er 1))) (mkH E (eC ro 1)) := fun v3 v4 Q => by
    rw [er1]
    refine (x_wr (d := d + 67) s_E (by decide)).trans ?_
    exact sg_X9_explained_22 (d := d + 69) s_E
  have eM1 : ∀ v3 v4 v5 Q, wX (d + 69) 153 [.ref 101, .int 1] (mkH E r1) (fun v h' => wG (d + 69) 219 (33, [.ref 101, .int x, .int y, v3, v4, v5], pv v [], h') Q) = Q (some (.int (er 1))) (mkH E (eM r1 1)) := fun v3 v4 v5 Q => by
    refine (x_fin (d := d + 68) (k := 1) s_E (by decide)).trans ?_
    exact sg_X10_explained_33 (d := d + 69) s_E
  rcases gS_s ok x with h | ⟨j, hj, rfl, h⟩
  · refine ⟨.inr 1, oC_e (by decide) (fun Q => ?_), oM_e (by decide) (fun Q => ?_)⟩
    · rw [pC, gS_C hC, h, if_pos rfl]; exact eC1 _ _ Q
    · rw [pM, gS_M hM, h, if_pos rfl]; exact eM1 _ _ _ Q
  · have h7 : j < 7 := by omega
    have qC : ∀ Q, wX (d + 70) 119 [.ref 10, .int (nI j), .int y] (mkH E ro) Q = wG (d + 69) 119 (13, [.ref 10, .int (nI j), .int y, .retAddr 0, .retAddr 0], [.int (f_X9_within y 0 (nI (2 ^ t.n - 1)))], mkH E ro) Q := fun Q => by
      rw [pC, gS_C hC, h, if_neg (by decide), ← gC]
      exact x_X9_isSet (d := d + 67) s_E
    have qM : ∀ Q, wX (d + 70) 219 [.ref 101, .int (nI j), .int y] (mkH E r1) Q = wG (d + 69) 219 (25, [.ref 101, .int (nI j), .int y, .retAddr 0, .retAddr 0, .retAddr 0], [.int (f_X9_within y 0 (nI (2 ^ t.n - 1)))], mkH E r1) Q := fun Q => by
      rw [pM, gS_M hM, h, if_neg (by decide), ← gM]
      exact x_X10_in (d := d + 68) s_E
    rcases wi_v (x := y) (a := 0) (m := 2 ^ t.n - 1) (by omega) (by decide) with h2 | ⟨g, _, hg, rfl, h2⟩
    · have h2 : f_X9_within y 0 (nI (2 ^ t.n - 1)) = 0 := h2
      refine ⟨.inr 1, oC_e (by decide) (fun Q => ?_), oM_e (by decide) (fun Q => ?_)⟩
      · rw [qC, h2]
        refine (sg_X9_explained_13 (d := d + 69) s_E).trans ?_
        rw [if_pos rfl]; exact eC1 _ _ Q
      · rw [qM, h2]
        refine (sg_X10_explained_25 (d := d + 69) s_E).trans ?_
        rw [if_pos rfl]; exact eM1 _ _ _ Q
    · have h2 : f_X9_within (nI g) 0 (nI (2 ^ t.n - 1)) = 1 := h2
      have hg128 : g < 128 := by omega
      have hoc : ∀ k, oc t (wl t) j k < 128 := fun k => Nat.lt_of_lt_of_le (oc_ltk (k := t.n)) h2n
      have hno : ∀ i, i < 7 → (nI i = nI j ↔ i = j) := fun i hi => nI_eq (by omega) (by omega)
      have eoc : ∀ k, (nI (oc t (wl t) j k) = nI g) = (exP t j g k = true) := fun k => propext (by
        unfold exP
        rw [decide_eq_true_eq]
        exact nI_eq (by have := hoc k; omega) (by omega))
      have lC : ∀ k i Q, i + k = 7 → wG (d + 69) 119 (34, [.ref 10, .int (nI j), .int (nI g), .int (nI (wl t)), .int (nI i)], [], mkH E ro) Q = if fsK (exP t j g) k i = 999 then Q (some (.int (er 2))) (mkH E (eC ro 2)) else Q (some (.int (nI (fsK (exP t j g) k i)))) (mkH E ro) := by
        intro k
        induction k with
        | zero =>
          intro i Q hi
          refine (sg_X9_explained_34 (d := d + 69) s_E).trans ?_
          rw [if_neg (show ¬ nI i < (7 : Int32) from @nI_nlt i 7 (by omega) (by omega)), er2]
          refine (x_wr (d := d + 67) s_E (by decide)).trans ?_
          refine (sg_X9_explained_71 (d := d + 69) s_E).trans ?_
          exact (if_pos rfl).symm
        | succ k ih =>
          intro i Q hi
          refine (sg_X9_explained_34 (d := d + 69) s_E).trans ?_
          rw [if_pos (show nI i < (7 : Int32) from @nI_lt i 7 (by omega) (by decide))]
          refine (x_X2_outcome (d := d + 66) (ot := j) s_E ok hC (by omega) hno (by omega)).trans ?_
          refine (sg_X9_explained_52 (d := d + 69) s_E).trans ?_
          simp only [eoc]
          unfold fsK
          by_cases q : exP t j g i = true
          · simp only [if_pos q]
            rw [if_neg (by omega)]
          · simp only [if_neg q]
            rw [← nI_succ]
            exact ih (i + 1) Q (by omega)
      have vC : ∀ Q, wX (d + 70) 119 [.ref 10, .int (nI j), .int (nI g)] (mkH E ro) Q = if fsK (exP t j g) 7 0 = 999 then Q (some (.int (er 2))) (mkH E (eC ro 2)) else Q (some (.int (nI (fsK (exP t j g) 7 0)))) (mkH E ro) := fun Q => by
        rw [qC, h2]
        refine (sg_X9_explained_13 (d := d + 69) s_E).trans ?_
        rw [if_neg (by decide)]
        refine (x_X2_wills (d := d + 67) s_E ok hC).trans ?_
        refine (sg_X9_explained_30 (d := d + 69) s_E).trans ?_
        exact lC 7 0 Q (by omega)
      -- the model
      have h102 : r1 102 (10 + 10 * j) = nI (t.K j) := hM.K j hj
      have lM : ∀ a b u Q, a ≤ 7 → (b = 999 ∨ b < 128) → wG (d + 69) 219 (48, [.ref 101, .int (nI j), .int (nI g), .int (nI (t.K j)), .int (nb9 b), .int (nI a - 1)], [], mkH E (uI r1 102 (10 + 10 * j) u)) Q = if exD (exP t j g) a b = 999 then Q (some (.int (er 2))) (mkH E (eM r1 2)) else Q (some (.int (nI (exD (exP t j g) a b)))) (mkH E r1) := by
        intro a
        induction a with
        | zero =>
          intro b u Q _ hb
          refine (sg_X10_explained_48 (d := d + 69) s_E).trans ?_
          rw [if_pos (by decide)]
          have hp := x_puts (d := d + 68) (Q := fun v h' => wG (d + 69) 219 (91, [.ref 101, .int (nI j), .int (nI g), .int (nI (t.K j)), .int (nb9 b), .int (nI 0 - 1)], pv v [], h') Q) (r := uI r1 102 (10 + 10 * j) u) (w := 0) (v := nI (t.K j)) s_E h7 (by decide)
          refine hp.trans ?_
          rw [show 10 + 10 * j + 0 = 10 + 10 * j from rfl, uI_uI, uI_id h102]
          refine (sg_X10_explained_91 (d := d + 69) s_E).trans ?_
          simp only [nb9_neg hb]
          show _ = if b = 999 then _ else Q (some (.int (nI b))) (mkH E r1)
          by_cases q : b = 999
          · rw [if_pos q, if_pos q]
            refine (x_fin (d := d + 68) (k := 2) s_E (by decide)).trans ?_
            exact sg_X10_explained_101 (d := d + 69) s_E
          · rw [if_neg q, if_neg q]
            have em : nb9 b = nI b := by unfold nb9; rw [if_neg q]
            rw [em]
        | succ a ih =>
          intro b u Q ha hb
          rw [nI_pred]
          refine (sg_X10_explained_48 (d := d + 69) s_E).trans ?_
          rw [if_neg (nI_pos (by omega))]
          have hp := x_puts (d := d + 68) (Q := fun v h' => wG (d + 69) 219 (61, [.ref 101, .int (nI j), .int (nI g), .int (nI (t.K j)), .int (nb9 b), .int (nI a)], pv v [], h') Q) (r := uI r1 102 (10 + 10 * j) u) (w := 0) (v := nI a) s_E h7 (by decide)
          refine hp.trans ?_
          rw [show 10 + 10 * j + 0 = 10 + 10 * j from rfl, uI_uI]
          refine (sg_X10_explained_61 (d := d + 69) s_E).trans ?_
          refine (x_all (d := d + 65) s_E (Kx_ok ok (show a < 7 by omega)) (tM_Kx hM hj hn)).trans ?_
          rw [hp_Kx ok (by omega)]
          refine (sg_X10_explained_65 (d := d + 69) s_E).trans ?_
          simp only [eoc]
          rw [← Int32.sub_eq_add_neg]
          show _ = if exD (exP t j g) a (if exP t j g a = true then a else b) = 999 then _ else Q (some (.int (nI (exD (exP t j g) a (if exP t j g a = true then a else b))))) (mkH E r1)
          by_cases q : exP t j g a = true
          · simp only [if_pos q]
            have em : nI a = nb9 a := by unfold nb9; rw [if_neg (by omega)]
            have := ih a (nI a) Q (by omega) (Or.inr (by omega))
            rw [← em] at this
            exact this
          · simp only [if_neg q]
            exact ih b (nI a) Q (by omega) hb
      have vM : ∀ Q, wX (d + 70) 219 [.ref 101, .int (nI j), .int (nI g)] (mkH E r1) Q = if fsK (exP t j g) 7 0 = 999 then Q (some (.int (er 2))) (mkH E (eM r1 2)) else Q (some (.int (nI (fsK (exP t j g) 7 0)))) (mkH E r1) := fun Q => by
        rw [qM, h2]
        refine (sg_X10_explained_25 (d := d + 69) s_E).trans ?_
        rw [if_neg (by decide)]
        refine (x_its (w := 0) s_E h7 (by decide)).trans ?_
        rw [show 10 + 10 * j + 0 = 10 + 10 * j from rfl, h102]
        refine (sg_X10_explained_40 (d := d + 69) s_E).trans ?_
        have := lM 7 999 (nI (t.K j)) Q (by omega) (Or.inl rfl)
        rw [uI_id h102, exD_fs 7 999 (by decide)] at this
        have e : (if fsK (exP t j g) 7 0 = 999 then 999 else fsK (exP t j g) 7 0) = fsK (exP t j g) 7 0 := by
          split
          · rename_i q; exact q.symm
          · rfl
        rw [e] at this
        exact this
      by_cases q : fsK (exP t j g) 7 0 = 999
      · exact ⟨.inr 2, oC_e (by decide) (fun Q => by rw [vC, if_pos q]), oM_e (by decide) (fun Q => by rw [vM, if_pos q])⟩
      · exact ⟨.inl (nI (fsK (exP t j g) 7 0)), oC_v (fun Q => by rw [vC, if_neg q]), oM_v (fun Q => by rw [vM, if_neg q])⟩
end EX
