section RW
variable {d : Nat} {E : pEv} {ro r1 r r' : Nat → Nat → Int32} {t : Th} {X : Tx} {Q : Option Value → pH → Prop}
theorem tht_le (p : Nat) : tht t p ≤ 2 ^ t.n := by
  have : ∀ k, it (fun c a => a + al1 t (ga t p) c) k 0 0 ≤ k := it_ind (J := fun k b => b ≤ k) (Nat.le_refl _) (fun k b h => by
    have h1 : al1 t (ga t p) (0 + k) ≤ 1 := by
      unfold al1
      (repeat' split) <;> omega
    show b + al1 t (ga t p) (0 + k) ≤ k + 1
    omega)
  exact this _
theorem ro_thought (s_E : oE E) (ok : tOK t) {x : Int32} : RO d E t X 117 [.ref 10, .int x] 217 [.ref 101, .int x] := by
  intro ro r1 hC hX hz hM hXM
  have hn := ok.n
  have pC : ∀ Q, wX (d + 70) 117 [.ref 10, .int x] (mkH E ro) Q = _ := fun Q => (en_X9_thought (d := d + 69) s_E).trans ((x_X9_within (d := d + 68) s_E).trans (sg_X9_thought_12 (d := d + 69) s_E))
  have pM : ∀ Q, wX (d + 70) 217 [.ref 101, .int x] (mkH E r1) Q = _ := fun Q => (en_X10_thought (d := d + 69) s_E).trans ((x_X10_in (d := d + 68) s_E).trans (sg_X10_thought_13 (d := d + 69) s_E))
  have gM : f_X10_in x.toInt64 0 ((r1 102 0).toInt64) = f_X9_within x 0 (nI t.n) := by rw [hM.n]; exact in_l (a := 0) (b := nI t.n)
  have gC : f_X9_within x 0 (ro 11 7) = f_X9_within x 0 (nI t.n) := by rw [hC.n]
  rcases wi_v (x := x) (a := 0) (m := t.n) (by omega) (by decide) with h | ⟨p, _, hp, rfl, h⟩
  · have h : f_X9_within x 0 (nI t.n) = 0 := h
    refine ⟨.inr 1, oC_e (by decide) (fun Q => ?_), oM_e (by decide) (fun Q => ?_)⟩
    · rw [pC, gC, h, if_pos rfl, er1]
      refine (x_wr (d := d + 67) s_E (by decide)).trans ?_
      exact sg_X9_thought_21 (d := d + 69) s_E
    · rw [pM, gM, h, if_pos rfl]
      refine (x_fin (d := d + 68) (k := 1) s_E (by decide)).trans ?_
      exact sg_X10_thought_29 (d := d + 69) s_E
  · have h : f_X9_within (nI p) 0 (nI t.n) = 1 := h
    obtain ⟨r', s1, t1, j1, e1⟩ := x_compare (d := d + 64) s_E ok hC
    obtain ⟨r2, s2, e2⟩ := x_thoughts (d := d + 63) s_E ok hM hp
    have hC' := tC_s hC hn (p79S s1)
    refine ⟨.inl (nI (tht t p)), ⟨r', p79S s1, fun Q => ?_⟩, ⟨r2, cbS s2, fun Q => ?_⟩⟩
    · rw [pC, gC, h, if_neg (by decide)]
      refine (e1 _).trans ?_
      refine (sg_X9_thought_29 (d := d + 69) s_E).trans ?_
      refine (x_like (d := d + 66) s_E ok hC' hp t1 j1).trans ?_
      exact sg_X9_thought_37 (d := d + 69) s_E
    · rw [pM, gM, h, if_neg (by decide)]
      refine (e2 _).trans ?_
      exact sg_X10_thought_21 (d := d + 69) s_E
/-- the first place that is sure; 999: none -/
def sur (t : Th) : Nat → Nat → Nat
  | 0, _ => 999
  | k + 1, p => if tht t p = 1 then p else sur t k (p + 1)
theorem ro_sure (s_E : oE E) (ok : tOK t) : RO d E t X 118 [.ref 10] 218 [.ref 101] := by
  intro ro r1 hC hX hz hM hXM
  have hn := ok.n
  have h2n := p128 ok
  obtain ⟨r', s1, t1, j1, e1⟩ := x_compare (d := d + 64) s_E ok hC
  have hC' := tC_s hC hn (p79S s1)
  have kC : ∀ k p Q, p + k = t.n + 1 → wG (d + 69) 118 (9, [.ref 10, .int (nI p)], [], mkH E r') Q = if sur t k p = 999 then Q (some (.int (er 2))) (mkH E (eC r' 2)) else Q (some (.int (nI (sur t k p)))) (mkH E r') := by
    intro k
    induction k with
    | zero =>
      intro p Q hp
      refine (sg_X9_sure_9 (d := d + 69) s_E).trans ?_
      rw [hC'.n, if_pos (nI_lt (by omega) (by omega)), er2]
      refine (x_wr (d := d + 67) s_E (by decide)).trans ?_
      refine (sg_X9_sure_46 (d := d + 69) s_E).trans ?_
      exact (if_pos rfl).symm
    | succ k ih =>
      intro p Q hp
      refine (sg_X9_sure_9 (d := d + 69) s_E).trans ?_
      rw [hC'.n, if_neg (nI_nlt (by omega) (by omega))]
      refine (x_like (d := d + 66) s_E ok hC' (by omega) t1 j1).trans ?_
      refine (sg_X9_sure_28 (d := d + 69) s_E).trans ?_
      have hb := tht_le (t := t) p
      have e : (nI (tht t p) = 1) = (tht t p = 1) := propext (nI_eq (b := 1) (by omega) (by decide))
      simp only [e]
      unfold sur
      by_cases q : tht t p = 1
      · simp only [if_pos q]
        rw [if_neg (by omega)]
      · simp only [if_neg q]
        rw [← nI_succ]
        exact ih (p + 1) Q (by omega)
  have kM : ∀ k p r, p + k = t.n + 1 → tM t r → ∃ r', sE cbP r r' ∧ ∀ Q, wG (d + 69) 218 (2, [.ref 101, .int (nI p)], [], mkH E r) Q = if sur t k p = 999 then Q (some (.int (er 2))) (mkH E (eM r' 2)) else Q (some (.int (nI (sur t k p)))) (mkH E r') := by
    intro k
    induction k with
    | zero =>
      intro p r hp hM
      refine ⟨r, sE_rf, fun Q => ?_⟩
      refine (sg_X10_sure_2 (d := d + 69) s_E).trans ?_
      rw [hM.n, if_pos (nI_lt (by omega) (by omega))]
      refine (x_fin (d := d + 68) (k := 2) s_E (by decide)).trans ?_
      refine (sg_X10_sure_34 (d := d + 69) s_E).trans ?_
      exact (if_pos rfl).symm
    | succ k ih =>
      intro p r hp hM
      obtain ⟨r2, s2, e2⟩ := x_thoughts (d := d + 63) (p := p) s_E ok hM (by omega)
      have hb := tht_le (t := t) p
      have e : (nI (tht t p) = 1) = (tht t p = 1) := propext (nI_eq (b := 1) (by omega) (by decide))
      by_cases q : tht t p = 1
      · refine ⟨r2, s2, fun Q => ?_⟩
        refine (sg_X10_sure_2 (d := d + 69) s_E).trans ?_
        rw [hM.n, if_neg (nI_nlt (by omega) (by omega))]
        refine (e2 _).trans ?_
        refine (sg_X10_sure_17 (d := d + 69) s_E).trans ?_
        simp only [e]
        unfold sur
        simp only [if_pos q]
        rw [if_neg (by omega)]
      · obtain ⟨r3, s3, e3⟩ := ih (p + 1) r2 (by omega) (tM_s hM (cbS s2))
        refine ⟨r3, sE_tr s2 s3, fun Q => ?_⟩
        refine (sg_X10_sure_2 (d := d + 69) s_E).trans ?_
        rw [hM.n, if_neg (nI_nlt (by omega) (by omega))]
        refine (e2 _).trans ?_
        refine (sg_X10_sure_17 (d := d + 69) s_E).trans ?_
        simp only [e]
        unfold sur
        simp only [if_neg q]
        rw [← nI_succ]
        exact e3 Q
  obtain ⟨r2, s2, e2⟩ := kM (t.n + 1) 0 r1 (by omega) hM
  have pC : ∀ Q, wX (d + 70) 118 [.ref 10] (mkH E ro) Q = _ := fun Q => (en_X9_sure (d := d + 69) s_E).trans ((e1 _).trans ((sg_X9_sure_7 (d := d + 69) s_E).trans (kC (t.n + 1) 0 Q (by omega))))
  have pM : ∀ Q, wX (d + 70) 218 [.ref 101] (mkH E r1) Q = _ := fun Q => (en_X10_sure (d := d + 69) s_E).trans (e2 Q)
  by_cases q : sur t (t.n + 1) 0 = 999
  · exact ⟨.inr 2, ⟨by decide, r', p79S s1, fun Q => by rw [pC, if_pos q]⟩, ⟨by decide, r2, cbS s2, fun Q => by rw [pM, if_pos q]⟩⟩
  · exact ⟨.inl (nI (sur t (t.n + 1) 0)), ⟨r', p79S s1, fun Q => by rw [pC, if_neg q]⟩, ⟨r2, cbS s2, fun Q => by rw [pM, if_neg q]⟩⟩
theorem mdn_b : ∀ k c b s v, c + k ≤ 128 → (b = 999 ∨ b < 128) → (it (mdF t s v) k c b = 999 ∨ it (mdF t s v) k c b < 128) := by
  intro k
  induction k with
  | zero => intro c b s v _ h; exact h
  | succ k ih =>
    intro c b s v hc h
    exact ih (c + 1) _ s v (by omega) (mdF_b (by omega) h)
theorem x_mendLp (s_E : oE E) (ok : tOK t) {s v : Nat} (hs : s < t.n) (hv : v ≤ 1) {x3 : Int32} : ∀ k c b r v7, c + k = 2 ^ t.n → (b = 999 ∨ b < 128) → tM t r → ∃ r' w7, sE cbP r r' ∧ ∀ Q, wG (d + 5) 215 (46, [.ref 101, .int (nI s), .int (nI v), .int x3, .int (nI (st t)), .int (nb9 b), .int (nI c), v7], [], mkH E r) Q = wG (d + 5) 215 (46, [.ref 101, .int (nI s), .int (nI v), .int x3, .int (nI (st t)), .int (nb9 (it (mdF t s v) k c b)), .int (nI (2 ^ t.n)), w7], [], mkH E r') Q := by
  have hn := ok.n
  have h2n := p128 ok
  have hst := st_lt (t := t)
  have hwl := wl_lt ok
  have h7 : s < 7 := by omega
  intro k
  induction k with
  | zero =>
    intro c b r v7 hk hb hM
    obtain rfl : c = 2 ^ t.n := by omega
    exact ⟨r, v7, sE_rf, fun Q => rfl⟩
  | succ k ih =>
    intro c b r v7 hk hb hM
    have hc128 : c < 128 := by omega
    have han : (nI (an c (st t)) = 0) = (an c (st t) = 0) := propext (nI_eq (b := 0) (by have := an_lt (g := st t) hc128; omega) (by decide))
    have pre : ∀ Q, wG (d + 5) 215 (46, [.ref 101, .int (nI s), .int (nI v), .int x3, .int (nI (st t)), .int (nb9 b), .int (nI c), v7], [], mkH E r) Q = if an c (st t) = 0 then (if b = 999 then wX (d + 5) 214 [.ref 101, .int (nI c)] (mkH E r) (fun v1 h' => wG (d + 5) 215 (105, [.ref 101, .int (nI s), .int (nI v), .int x3, .int (nI (st t)), .int (nb9 b), .int (nI c), .int 1], pv v1 [], h') Q) else if bc c < bc b then wX (d + 5) 214 [.ref 101, .int (nI c)] (mkH E r) (fun v1 h' => wG (d + 5) 215 (105, [.ref 101, .int (nI s), .int (nI v), .int x3, .int (nI (st t)), .int (nb9 b), .int (nI c), .int 1], pv v1 [], h') Q) else wG (d + 5) 215 (46, [.ref 101, .int (nI s), .int (nI v), .int x3, .int (nI (st t)), .int (nb9 b), .int (nI (c + 1)), .int 0], [], mkH E r) Q) else wG (d + 5) 215 (46, [.ref 101, .int (nI s), .int (nI v), .int x3, .int (nI (st t)), .int (nb9 b), .int (nI (c + 1)), .int 0], [], mkH E r) Q := by
      intro Q
      refine (sg_X10_mended_46 (d := d + 5) s_E).trans ?_
      rw [sh2n ok hM, if_pos (nI_lt (by omega) (by omega)), an_t hc128 (by omega), ← nI_succ]
      simp only [han, nb9_neg hb]
      by_cases h0 : an c (st t) = 0
      · rw [if_pos h0, if_pos h0]
        by_cases hb9 : b = 999
        · rw [if_pos hb9, if_pos hb9]
        · rw [if_neg hb9, if_neg hb9]
          have hb2 := hb.resolve_left hb9
          have eb : nb9 b = nI b := by unfold nb9; rw [if_neg hb9]
          refine (x_X10_ones s_E hc128).trans ?_
          refine (sg_X10_mended_79 (d := d + 5) s_E).trans ?_
          rw [eb]
          refine (x_X10_ones s_E hb2).trans ?_
          refine (sg_X10_mended_84 (d := d + 5) s_E).trans ?_
          rw [← nI_succ]
          have e : (nI (bc c) < nI (bc b)) = (bc c < bc b) := propext (nI_ltI (by have := bc_le c; omega) (by have := bc_le b; omega))
          simp only [e]
      · rw [if_neg h0, if_neg h0]
    have hfin : ∀ b', mdF t s v c b = b' → it (mdF t s v) (k + 1) c b = it (mdF t s v) k (c + 1) b' := fun b' e => by rw [← e]; rfl
    by_cases hf : an c (st t) = 0 ∧ (b = 999 ∨ bc c < bc b)
    · obtain ⟨r1, s1, e1⟩ := x_comingBy (d := d) s_E ok hM hc128
      have hM1 := tM_s hM (cbS s1)
      have hbt := @bt_le (wo t (wl t ^^^ c)) s
      have e : (nI (bt (wo t (wl t ^^^ c)) s) = nI v) = (bt (wo t (wl t ^^^ c)) s = v) := propext (nI_eq (by omega) (by omega))
      have st2 : ∀ Q, wG (d + 5) 215 (46, [.ref 101, .int (nI s), .int (nI v), .int x3, .int (nI (st t)), .int (nb9 b), .int (nI c), v7], [], mkH E r) Q = if bt (wo t (wl t ^^^ c)) s = v then wG (d + 5) 215 (46, [.ref 101, .int (nI s), .int (nI v), .int x3, .int (nI (st t)), .int (nI c), .int (nI (c + 1)), .int 1], [], mkH E r1) Q else wG (d + 5) 215 (46, [.ref 101, .int (nI s), .int (nI v), .int x3, .int (nI (st t)), .int (nb9 b), .int (nI (c + 1)), .int 1], [], mkH E r1) Q := by
        intro Q
        have go : wX (d + 5) 214 [.ref 101, .int (nI c)] (mkH E r) (fun v1 h' => wG (d + 5) 215 (105, [.ref 101, .int (nI s), .int (nI v), .int x3, .int (nI (st t)), .int (nb9 b), .int (nI c), .int 1], pv v1 [], h') Q) = if bt (wo t (wl t ^^^ c)) s = v then wG (d + 5) 215 (46, [.ref 101, .int (nI s), .int (nI v), .int x3, .int (nI (st t)), .int (nI c), .int (nI (c + 1)), .int 1], [], mkH E r1) Q else wG (d + 5) 215 (46, [.ref 101, .int (nI s), .int (nI v), .int x3, .int (nI (st t)), .int (nb9 b), .int (nI (c + 1)), .int 1], [], mkH E r1) Q := by
          refine (e1 _).trans ?_
          refine (sg_X10_mended_105 (d := d + 5) s_E).trans ?_
          rw [sh31 (by omega), nI_bt (wo_lt ok) h7, ← nI_succ]
          simp only [e]
        rw [pre, if_pos hf.1]
        rcases hf.2 with q | q
        · rw [if_pos q]; exact go
        · by_cases hb9 : b = 999
          · rw [if_pos hb9]; exact go
          · rw [if_neg hb9, if_pos q]; exact go
      by_cases q : bt (wo t (wl t ^^^ c)) s = v
      · obtain ⟨r2, w7, s2, e2⟩ := ih (c + 1) c r1 (.int 1) (by omega) (Or.inr hc128) hM1
        refine ⟨r2, w7, sE_tr s1 s2, fun Q => ?_⟩
        rw [st2, if_pos q, hfin c (by unfold mdF; rw [if_pos ⟨hf.1, hf.2, q⟩])]
        have ec : nI c = nb9 c := by unfold nb9; rw [if_neg (by omega)]
        have e2 := e2 Q
        rw [← ec] at e2
        exact e2
      · obtain ⟨r2, w7, s2, e2⟩ := ih (c + 1) b r1 (.int 1) (by omega) hb hM1
        refine ⟨r2, w7, sE_tr s1 s2, fun Q => ?_⟩
        rw [st2, if_neg q, hfin b (by unfold mdF; rw [if_neg (fun q2 => q q2.2.2)])]
        exact e2 Q
    · obtain ⟨r2, w7, s2, e2⟩ := ih (c + 1) b r (.int 0) (by omega) hb hM
      refine ⟨r2, w7, s2, fun Q => ?_⟩
      rw [pre, hfin b (by unfold mdF; rw [if_neg (fun q2 => hf ⟨q2.1, q2.2.1⟩)])]
      by_cases h0 : an c (st t) = 0
      · rw [if_pos h0, if_neg (fun q => hf ⟨h0, Or.inl q⟩), if_neg (fun q => hf ⟨h0, Or.inr q⟩)]
        exact e2 Q
      · rw [if_neg h0]
        exact e2 Q
theorem ro_mended (s_E : oE E) (ok : tOK t) {x y z : Int32} : RO d E t X 116 [.ref 10, .int x, .int y, .int z] 215 [.ref 101, .int x, .int y, .int z] := by
  intro ro r1 hC hX hz hM hXM
  have hn := ok.n
  have h2n := p128 ok
  have pC : ∀ Q, wX (d + 70) 116 [.ref 10, .int x, .int y, .int z] (mkH E ro) Q = _ := fun Q => (en_X9_mended (d := d + 69) s_E).trans ((x_X9_stands (d := d + 67) s_E).trans (sg_X9_mended_5 (d := d + 69) s_E))
  have pM : ∀ Q, wX (d + 70) 215 [.ref 101, .int x, .int y, .int z] (mkH E r1) Q = _ := fun Q => (en_X10_mended (d := d + 69) s_E).trans ((x_X10_isScene (d := d + 67) s_E).trans (sg_X10_mended_5 (d := d + 69) s_E))
  have gM : ∀ y : Int32, f_X10_in y.toInt64 0 1 = f_X9_within y 0 1 := fun y => in_l (a := 0) (b := 1)
  have eC1 : ∀ v4 Q, wX (d + 69) 136 [.ref 10, .int (-1000000001)] (mkH E ro) (fun v h' => wG (d + 69) 116 (32, [.ref 10, .int x, .int y, .int z, v4], pv v [], h') Q) = Q (some (.int (er 1))) (mkH E (eC ro 1)) := fun v4 Q => by
    rw [er1]
    refine (x_wr (d := d + 67) s_E (by decide)).trans ?_
    exact sg_X9_mended_32 (d := d + 69) s_E
  have eM1 : ∀ v4 v5 v6 v7 Q, wX (d + 69) 153 [.ref 101, .int 1] (mkH E r1) (fun v h' => wG (d + 69) 215 (33, [.ref 101, .int x, .int y, .int z, v4, v5, v6, v7], pv v [], h') Q) = Q (some (.int (er 1))) (mkH E (eM r1 1)) := fun v4 v5 v6 v7 Q => by
    refine (x_fin (d := d + 68) (k := 1) s_E (by decide)).trans ?_
    exact sg_X10_mended_33 (d := d + 69) s_E
  rcases gS_s ok x with h | ⟨j, hj, rfl, h⟩
  · refine ⟨.inr 1, oC_e (by decide) (fun Q => ?_), oM_e (by decide) (fun Q => ?_)⟩
    · rw [pC, gS_C hC, h, if_pos rfl]; exact eC1 _ Q
    · rw [pM, gS_M hM, h, if_pos rfl]; exact eM1 _ _ _ _ Q
  · have qC : ∀ Q, wX (d + 70) 116 [.ref 10, .int (nI j), .int y, .int z] (mkH E ro) Q = wG (d + 69) 116 (14, [.ref 10, .int (nI j), .int y, .int z, .retAddr 0], [.int (f_X9_within y 0 1)], mkH E ro) Q := fun Q => by
      rw [pC, gS_C hC, h, if_neg (by decide)]
      exact x_X9_within (d := d + 68) s_E
    have qM : ∀ Q, wX (d + 70) 215 [.ref 101, .int (nI j), .int y, .int z] (mkH E r1) Q = wG (d + 69) 215 (15, [.ref 101, .int (nI j), .int y, .int z, .retAddr 0, .retAddr 0, .retAddr 0, .retAddr 0], [.int (f_X9_within y 0 1)], mkH E r1) Q := fun Q => by
      rw [pM, gS_M hM, h, if_neg (by decide)]
      refine (x_X10_in (d := d + 68) s_E).trans ?_
      rw [gM]
      rfl
    rcases wi_v (x := y) (a := 0) (m := 1) (by decide) (by decide) with h2 | ⟨v, _, hv, rfl, h2⟩
    · have h2 : f_X9_within y 0 1 = 0 := h2
      refine ⟨.inr 1, oC_e (by decide) (fun Q => ?_), oM_e (by decide) (fun Q => ?_)⟩
      · rw [qC, h2]
        refine (sg_X9_mended_14 (d := d + 69) s_E).trans ?_
        rw [if_pos rfl]; exact eC1 _ Q
      · rw [qM, h2]
        refine (sg_X10_mended_15 (d := d + 69) s_E).trans ?_
        rw [if_pos rfl]; exact eM1 _ _ _ _ Q
    · have h2 : f_X9_within (nI v) 0 1 = 1 := h2
      have uC : ∀ Q, wX (d + 70) 116 [.ref 10, .int (nI j), .int (nI v), .int z] (mkH E ro) Q = wG (d + 69) 116 (23, [.ref 10, .int (nI j), .int (nI v), .int z, .retAddr 0], [.int (f_X9_within z 0 1)], mkH E ro) Q := fun Q => by
        rw [qC, h2]
        refine (sg_X9_mended_14 (d := d + 69) s_E).trans ?_
        rw [if_neg (by decide)]
        exact x_X9_within (d := d + 68) s_E
      have uM : ∀ Q, wX (d + 70) 215 [.ref 101, .int (nI j), .int (nI v), .int z] (mkH E r1) Q = wG (d + 69) 215 (25, [.ref 101, .int (nI j), .int (nI v), .int z, .retAddr 0, .retAddr 0, .retAddr 0, .retAddr 0], [.int (f_X9_within z 0 1)], mkH E r1) Q := fun Q => by
        rw [qM, h2]
        refine (sg_X10_mended_15 (d := d + 69) s_E).trans ?_
        rw [if_neg (by decide)]
        refine (x_X10_in (d := d + 68) s_E).trans ?_
        rw [gM]
        rfl
      rcases wi_v (x := z) (a := 0) (m := 1) (by decide) (by decide) with h3 | ⟨w, _, hw, rfl, h3⟩
      · have h3 : f_X9_within z 0 1 = 0 := h3
        refine ⟨.inr 1, oC_e (by decide) (fun Q => ?_), oM_e (by decide) (fun Q => ?_)⟩
        · rw [uC, h3]
          refine (sg_X9_mended_23 (d := d + 69) s_E).trans ?_
          rw [if_pos rfl]; exact eC1 _ Q
        · rw [uM, h3]
          refine (sg_X10_mended_25 (d := d + 69) s_E).trans ?_
          rw [if_pos rfl]; exact eM1 _ _ _ _ Q
      · have h3 : f_X9_within (nI w) 0 1 = 1 := h3
        obtain ⟨r2, w7, s2, e2⟩ := x_mendLp (d := d + 64) (x3 := nI w) s_E ok hj hv (2 ^ t.n) 0 999 r1 (.retAddr 0) (by omega) (Or.inl rfl) hM
        have hM2 := tM_s hM (cbS s2)
        have hmb : mdn t j v = 999 ∨ mdn t j v < 128 := mdn_b (2 ^ t.n) 0 999 j v (by omega) (Or.inl rfl)
        have vC : ∀ Q, wX (d + 70) 116 [.ref 10, .int (nI j), .int (nI v), .int (nI w)] (mkH E ro) Q = wG (d + 69) 116 (42, [.ref 10, .int (nI j), .int (nI v), .int (nI w), .retAddr 0], [.int (nb9 (mdn t j v))], mkH E ro) Q := fun Q => by
          rw [uC, h3]
          refine (sg_X9_mended_23 (d := d + 69) s_E).trans ?_
          rw [if_neg (by decide)]
          exact x_leastChange (d := d + 65) s_E ok hC hj hv
        have vM : ∀ Q, wX (d + 70) 215 [.ref 101, .int (nI j), .int (nI v), .int (nI w)] (mkH E r1) Q = wG (d + 69) 215 (46, [.ref 101, .int (nI j), .int (nI v), .int (nI w), .int (nI (st t)), .int (nb9 (mdn t j v)), .int (nI (2 ^ t.n)), w7], [], mkH E r2) Q := fun Q => by
          rw [uM, h3]
          refine (sg_X10_mended_25 (d := d + 69) s_E).trans ?_
          rw [if_neg (by decide)]
          refine (x_roots (d := d + 67) s_E ok hM).trans ?_
          refine (sg_X10_mended_38 (d := d + 69) s_E).trans ?_
          exact e2 Q
        have hlt : ¬ nI (2 ^ t.n) < nI (2 ^ t.n) := nI_nlt (Nat.le_refl _) (by omega)
        have ew : (nI w = 0) = (w = 0) := propext (nI_eq (b := 0) (by omega) (by decide))
        by_cases hm : mdn t j v = 999
        · refine ⟨.inr 2, oC_e (by decide) (fun Q => ?_), ⟨by decide, r2, cbS s2, fun Q => ?_⟩⟩
          · rw [vC]
            refine (sg_X9_mended_42 (d := d + 69) s_E).trans ?_
            simp only [nb9_neg hmb]
            rw [if_pos hm, er2]
            refine (x_wr (d := d + 67) s_E (by decide)).trans ?_
            exact sg_X9_mended_55 (d := d + 69) s_E
          · rw [vM]
            refine (sg_X10_mended_46 (d := d + 69) s_E).trans ?_
            rw [sh2n ok hM2, if_neg hlt]
            simp only [nb9_neg hmb]
            rw [if_pos hm]
            refine (x_fin (d := d + 68) (k := 2) s_E (by decide)).trans ?_
            exact sg_X10_mended_133 (d := d + 69) s_E
        · have hm2 := hmb.resolve_left hm
          have em : nb9 (mdn t j v) = nI (mdn t j v) := by unfold nb9; rw [if_neg hm]
          by_cases hw0 : w = 0
          · refine ⟨.inl (nI (bc (mdn t j v))), oC_v (fun Q => ?_), ⟨r2, cbS s2, fun Q => ?_⟩⟩
            · rw [vC]
              refine (sg_X9_mended_42 (d := d + 69) s_E).trans ?_
              simp only [nb9_neg hmb, ew]
              rw [if_neg hm, if_pos hw0, em]
              refine (x_J6_bitCount_0f7a4 (d := d + 68) s_E).trans ?_
              rw [nI_bc hm2]
              exact sg_X9_mended_65 (d := d + 69) s_E
            · rw [vM]
              refine (sg_X10_mended_46 (d := d + 69) s_E).trans ?_
              rw [sh2n ok hM2, if_neg hlt]
              simp only [nb9_neg hmb, ew]
              rw [if_neg hm, if_pos hw0, em]
              refine (x_X10_ones s_E hm2).trans ?_
              exact sg_X10_mended_145 (d := d + 69) s_E
          · refine ⟨.inl (nI (mdn t j v)), oC_v (fun Q => ?_), ⟨r2, cbS s2, fun Q => ?_⟩⟩
            · rw [vC]
              refine (sg_X9_mended_42 (d := d + 69) s_E).trans ?_
              simp only [nb9_neg hmb, ew]
              rw [if_neg hm, if_neg hw0, em]
            · rw [vM]
              refine (sg_X10_mended_46 (d := d + 69) s_E).trans ?_
              rw [sh2n ok hM2, if_neg hlt]
              simp only [nb9_neg hmb, ew]
              rw [if_neg hm, if_neg hw0, em]
end RW
