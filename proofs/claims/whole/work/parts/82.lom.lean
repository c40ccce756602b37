section LOM
variable {d : Nat} {E : pEv} {r r' r1 r2 : Nat → Nat → Int32} {t t' : Th} {X : Tx} {Q : Option Value → pH → Prop} {v : Nat → Nat} {o o' : Nat → Nat}
theorem lm_step (s_E : oE E) (xo : xOK X) {rr : Nat → Nat → Int32} {z T F : Int32} (ok : tOK (t.ord o)) (h : LM t X r o z T F rr) {x1 x2 : Int32} (hlt : x2 < x1) : ∃ rs, LM t X r (lz1 t.n o z).1 (lz1 t.n o z).2 (f_X9_held (T + clT (t.ord (lz1 t.n o z).1) X) (-99999) 99999) (F + 1) rs ∧ ∀ v3 v4 : Value, ∃ v3' v4' : Value, ∀ Q, wG (d + 69) 223 (40, [.ref 101, .int x1, .int x2, v3, v4], [], mkH E rr) Q = wG (d + 69) 223 (40, [.ref 101, .int x1, .int (x2 + 1), v3', v4'], [], mkH E rs) Q := by
  obtain ⟨hM, hX, hz, hT, hF, hs⟩ := h
  have hn : t.n ≤ 7 := ok.n
  have h0 : rr 102 0 = nI t.n := hM.n
  obtain ⟨c1, c2, c3, c4⟩ := n2_t t.n hn
  have ok' := lz_ok (z := z) ok
  -- the evening
  have ev : ∀ ra, LM t X r (lz1 t.n o z).1 (lz1 t.n o z).2 T F ra → ∃ rs, LM t X r (lz1 t.n o z).1 (lz1 t.n o z).2 (f_X9_held (T + clT (t.ord (lz1 t.n o z).1) X) (-99999) 99999) (F + 1) rs ∧ ∀ Q, wX (d + 69) 220 [.ref 101] (mkH E ra) Q = Q none (mkH E rs) := by
    intro ra h
    obtain ⟨hM, hX, hz, hT, hF, hs⟩ := h
    obtain ⟨rb, s2, e2⟩ := x_evening (d := d + 9) (E := E) s_E ok' hM xo hX
    rw [hT, hF] at e2
    refine ⟨_, ⟨tM_f (tM_s hM s2) ok'.n (fun k q => ?_), xM_f xo (xM_s hX s2) (fun k q => ?_), ?_, ?_, uI_e, sE_tr hs (sE_tr (sE_mo s2 (fun a k q => Or.inr q)) (sE_tr (sE_u (Or.inl (by omega))) (sE_u (Or.inl (by omega)))))⟩, e2⟩
    · unfold rTM at q; rw [uI_o (by omega), uI_o (by omega)]
    · unfold rXM at q; rw [uI_o (by omega), uI_o (by omega)]
    · rw [uI_o (by omega), uI_o (by omega), s2 _ _ (by unfold SM; omega)]; exact hz
    · rw [uI_o (by omega), uI_e]
  by_cases h2 : t.n < 2
  · have el : lz1 t.n o z = (o, z) := by unfold lz1; rw [if_pos h2]
    obtain ⟨rs, g1, g2⟩ := ev rr (by rw [el]; exact ⟨hM, hX, hz, hT, hF, hs⟩)
    refine ⟨rs, g1, fun v3 v4 => ⟨v3, v4, fun Q => ?_⟩⟩
    refine (sg_X10_loose_40 (d := d + 69) s_E).trans ?_
    rw [if_pos hlt, h0, if_neg (fun w => c2.mp w h2)]
    refine (g2 _).trans ?_
    exact sg_X10_loose_117 (d := d + 69) s_E
  · have el : lz1 t.n o z = (swO o (vZ z % (t.n - 1)), zN z) := by unfold lz1; rw [if_neg h2]
    have hp : vZ z % (t.n - 1) + 1 < t.n := by
      have := Nat.mod_lt (vZ z) (show 0 < t.n - 1 by omega)
      omega
    have hv := @vZ_lt z
    generalize ep : vZ z % (t.n - 1) = p at hp el
    let q : Nat → Nat → Int32 := uI rr 102 1 (zN z)
    let ra : Nat → Nat → Int32 := uI (uI q 102 (80 + p) (q 102 (80 + (p + 1)))) 102 (80 + (p + 1)) (q 102 (80 + p))
    have hq0 : q 102 0 = nI t.n := (uI_o (by omega)).trans h0
    have oa := o_at (show p < 7 by omega)
    obtain ⟨o1, o2, _⟩ := o_a1 p (by omega)
    have ho : ∀ j, j < t.n → q 102 (80 + j) = nI (o j) := fun j hj => (uI_o (by omega)).trans (hM.o j hj)
    obtain ⟨rs, g1, g2⟩ := ev ra (by
      rw [el]
      refine ⟨?_, ?_, ?_, ?_, ?_, ?_⟩
      · have := tM_ord (o' := swO o p) hM hn (r' := ra) (fun k w w2 => by
          unfold rTM at w
          show uI _ _ _ _ 102 k = _
          rw [uI_o (by omega), uI_o (by omega)]
          exact uI_o (by omega)) (fun i hi => by
          show uI _ _ _ _ 102 (80 + i) = _
          unfold swO
          by_cases w1 : i = p
          · rw [if_pos w1, w1, uI_o (by omega), uI_e, ho _ hp]
          · rw [if_neg w1]
            by_cases w2 : i = p + 1
            · rw [if_pos w2, w2, uI_e, ho _ (by omega)]
            · rw [if_neg w2, uI_o (by omega), uI_o (by omega), ho _ hi])
        rwa [ord_ord] at this
      · exact xM_f xo hX (fun k w => by
          unfold rXM at w
          show uI _ _ _ _ 102 k = _
          rw [uI_o (by omega), uI_o (by omega)]
          exact uI_o (by omega))
      · show uI _ _ _ _ 102 1 = _
        rw [uI_o (by omega), uI_o (by omega)]; exact uI_e
      · show uI _ _ _ _ 102 3 = _
        rw [uI_o (by omega), uI_o (by omega)]; exact (uI_o (by omega)).trans hT
      · show uI _ _ _ _ 102 4 = _
        rw [uI_o (by omega), uI_o (by omega)]; exact (uI_o (by omega)).trans hF
      · exact sE_tr hs (sE_tr (r' := q) (sE_u (Or.inl (by omega))) (sE_tr (sE_u (Or.inl (by omega))) (sE_u (Or.inl (by omega))))))
    refine ⟨rs, g1, fun v3 v4 => ⟨.int (nI p), .int (q 102 (80 + p)), fun Q => ?_⟩⟩
    · refine (sg_X10_loose_40 (d := d + 69) s_E).trans ?_
      rw [if_pos hlt, h0, if_pos (c2.mpr h2)]
      refine (x_X10_drawn (d := d + 68) s_E).trans ?_
      unfold f_X10_drawn g_X10_drawn
      rw [uI_e, hz]
      have ez : z * 1103515245 + 12345 = zN z := rfl
      rw [ez, vZ_e]
      have eP : nI (vZ z) - nI (vZ z) / (nI t.n - 1) * (nI t.n - 1) = nI p := by rw [c4 h2, nI_rm (by omega) (by omega), ep]
      have hP0 : ¬ (uI rr 102 1 (zN z)) 102 0 - 1 = 0 := by
        show ¬ q 102 0 - 1 = 0
        rw [hq0]
        intro e
        have := c3.mp e
        omega
      have eP' : nI (vZ z) - nI (vZ z) / ((uI rr 102 1 (zN z)) 102 0 - 1) * ((uI rr 102 1 (zN z)) 102 0 - 1) = nI p := by
        show nI (vZ z) - nI (vZ z) / (q 102 0 - 1) * (q 102 0 - 1) = nI p
        rw [hq0]; exact eP
      refine (sg_X10_loose_59 (d := d + 69) s_E hP0 (by rw [eP']; exact ⟨oa.2, by omega⟩) (by rw [eP']; exact ⟨o2, by omega⟩)).trans ?_
      rw [eP', oa.1, o1, show 81 + p = 80 + (p + 1) by omega]
      refine (g2 _).trans ?_
      exact sg_X10_loose_117 (d := d + 69) s_E
theorem st_loose (s_E : oE E) (hI : Inv r) {x : Int32} : stI E d r 121 [.ref 10, .int x] 223 [.ref 101, .int x] := by
  obtain ⟨t, X, ok, xo, hC, hX, hM, hXM, ⟨y1, y2, y3⟩, ⟨n, b, y4⟩, w, y5⟩ := hI.1
  have gM : f_X10_in x.toInt64 1 200 = f_X9_within x 1 200 := in_l (a := 1) (b := 200)
  have pC : ∀ Q, wX (d + 70) 121 [.ref 10, .int x] (mkH E r) Q = wG (d + 69) 121 (5, [.ref 10, .int x, .retAddr 0, .retAddr 0], [.int (f_X9_errorOfEvenings r x)], mkH E r) Q := fun Q => (en_X9_loose (d := d + 69) s_E).trans (x_X9_errorOfEvenings (d := d + 67) s_E)
  have pM : ∀ ra Q, wX (d + 70) 223 [.ref 101, .int x] (mkH E ra) Q = wG (d + 69) 223 (9, [.ref 101, .int x, .retAddr 0, .retAddr 0, .retAddr 0], [.int (f_X9_within x 1 200)], mkH E ra) Q := fun ra Q => by
    refine (en_X10_loose (d := d + 69) s_E).trans ?_
    refine (x_X10_in (d := d + 68) s_E).trans ?_
    rw [gM]
    rfl
  rcases wi_v (x := x) (a := 1) (m := 200) (by decide) (by decide) with h | ⟨m, hm1, hm, rfl, h⟩
  · have h : f_X9_within x 1 200 = 0 := h
    refine st_e hI (k := 1) (by decide) (fun Q => ?_) (fun Q => ?_)
    · rw [pC]
      unfold f_X9_errorOfEvenings
      rw [h, if_pos rfl]
      refine (sg_X9_loose_5 (d := d + 69) s_E).trans ?_
      rw [if_neg (by decide), er1]
      refine (x_wr (d := d + 67) s_E (by decide)).trans ?_
      exact sg_X9_loose_15 (d := d + 69) s_E
    · rw [pM, h]
      refine (sg_X10_loose_9 (d := d + 69) s_E).trans ?_
      rw [if_pos rfl]
      refine (x_fin (d := d + 68) (k := 1) s_E (by decide)).trans ?_
      exact sg_X10_loose_17 (d := d + 69) s_E
  · have h : f_X9_within (nI m) 1 200 = 1 := h
    by_cases hE : 9999 < (r 11 10) + nI m
    · refine st_e hI (k := 3) (by decide) (fun Q => ?_) (fun Q => ?_)
      · rw [pC]
        unfold f_X9_errorOfEvenings
        rw [h, if_neg (by decide), if_pos hE]
        refine (sg_X9_loose_5 (d := d + 69) s_E).trans ?_
        rw [if_neg (by decide), er3]
        refine (x_wr (d := d + 67) s_E (by decide)).trans ?_
        exact sg_X9_loose_15 (d := d + 69) s_E
      · rw [pM, h]
        refine (sg_X10_loose_9 (d := d + 69) s_E).trans ?_
        have e4 : (eC r 3) 102 4 = r 11 10 := (uI_o (by omega)).trans y2.symm
        rw [if_neg (by decide), e4, if_pos hE]
        refine (x_fin (d := d + 68) (k := 3) s_E (by decide)).trans ?_
        exact sg_X10_loose_37 (d := d + 69) s_E
    · have lpC : ∀ j i rr o z T F, i + j = m → tOK (t.ord o) → LC t X r o z T F rr → ∃ rs, (tOK (t.ord (lzS t X j o z T F).1) ∧ LC t X r (lzS t X j o z T F).1 (lzS t X j o z T F).2.1 (lzS t X j o z T F).2.2.1 (lzS t X j o z T F).2.2.2 rs) ∧ ∀ Q, wG (d + 69) 121 (18, [.ref 10, .int (nI m), .int 0, .int (nI i)], [], mkH E rr) Q = Q (some (.int (lzS t X j o z T F).2.2.1)) (mkH E rs) := by
        intro j
        induction j with
        | zero =>
          intro i rr o z T F hi hok hL
          obtain rfl : i = m := by omega
          refine ⟨rr, ⟨hok, hL⟩, fun Q => ?_⟩
          refine (sg_X9_loose_18 (d := d + 69) s_E).trans ?_
          rw [if_neg (nI_nlt (Nat.le_refl _) (by omega)), hL.2.2.2.1]
          rfl
        | succ j ih =>
          intro i rr o z T F hi hok hL
          obtain ⟨ra, hL2, e1⟩ := lc_step (d := d) (E := E) s_E xo hok hL (x1 := nI m) (x3 := nI i) (v2 := 0)
          obtain ⟨rs, g1, g2⟩ := ih (i + 1) ra _ _ _ _ (by omega) (lz_ok hok) hL2
          refine ⟨rs, g1, fun Q => ?_⟩
          refine (sg_X9_loose_18 (d := d + 69) s_E).trans ?_
          rw [if_pos (nI_lt (by omega) (by omega))]
          refine (e1 Q).trans ?_
          rw [← nI_succ]
          exact g2 Q
      obtain ⟨rs, ⟨okS, hCs, hXs, hzs, hTs, hFs, ss⟩, c4⟩ := lpC m 0 r t.o (r 11 11) (r 11 9) (r 11 10) (by omega) (by rw [ord_self]; exact ok) ⟨by rw [ord_self]; exact hC, hX, rfl, rfl, rfl, sE_rf⟩
      have rs102 : ∀ k, rs 102 k = r 102 k := fun k => ss 102 k (by unfold PLc SC; omega)
      have hMs : tM t rs := hM.fr (funext rs102)
      have hXMs : xM X rs := xM_f xo hXM (fun k _ => rs102 k)
      have lpM : ∀ j i rr o z T F, i + j = m → tOK (t.ord o) → LM t X rs o z T F rr → ∃ rt, LM t X rs (lzS t X j o z T F).1 (lzS t X j o z T F).2.1 (lzS t X j o z T F).2.2.1 (lzS t X j o z T F).2.2.2 rt ∧ ∀ (v3 v4 : Value) Q, wG (d + 69) 223 (40, [.ref 101, .int (nI m), .int (nI i), v3, v4], [], mkH E rr) Q = Q (some (.int (lzS t X j o z T F).2.2.1)) (mkH E rt) := by
        intro j
        induction j with
        | zero =>
          intro i rr o z T F hi hok hL
          obtain rfl : i = m := by omega
          refine ⟨rr, hL, fun v3 v4 Q => ?_⟩
          refine (sg_X10_loose_40 (d := d + 69) s_E).trans ?_
          rw [if_neg (nI_nlt (Nat.le_refl _) (by omega)), hL.2.2.2.1]
          rfl
        | succ j ih =>
          intro i rr o z T F hi hok hL
          obtain ⟨ra, hL2, e1⟩ := lm_step (d := d) (E := E) s_E xo hok hL (x1 := nI m) (x2 := nI i) (nI_lt (by omega) (by omega))
          obtain ⟨rt, g1, g2⟩ := ih (i + 1) ra _ _ _ _ (by omega) (lz_ok hok) hL2
          refine ⟨rt, g1, fun v3 v4 Q => ?_⟩
          obtain ⟨v3', v4', e2⟩ := e1 v3 v4
          refine (e2 Q).trans ?_
          rw [← nI_succ]
          exact g2 _ _ Q
      obtain ⟨rt, ⟨hMt, hXt, hzt, hTt, hFt, st⟩, m4⟩ := lpM m 0 rs t.o (r 11 11) (r 11 9) (r 11 10) (by omega) (by rw [ord_self]; exact ok) ⟨by rw [ord_self]; exact hMs, hXMs, (rs102 1).trans y3.symm, (rs102 3).trans y1.symm, (rs102 4).trans y2.symm, sE_rf⟩
      generalize hS : lzS t X m t.o (r 11 11) (r 11 9) (r 11 10) = S at *
      refine ⟨S.2.2.1, rs, rt, fun Q => ?_, fun Q => ?_, Inv_pl hI ⟨t.ord S.1, X, okS, xo, tC_f hCs okS.n (fun a k q => ?_), xC_f hXs (fun a k q => ?_), hMt, hXt, ⟨?_, ?_, ?_⟩, ⟨n, b, tp_f y4 (fun a k q => ?_) (fun k q => ?_)⟩, w, wt_f y5 (fun a k q => ?_) (fun k q => ?_)⟩ (sE_tr (sE_mo ss (fun a k q => ?_)) (sE_mo st (fun a k q => ?_)))⟩
      · rw [pC]
        unfold f_X9_errorOfEvenings
        rw [h, if_neg (by decide), if_neg hE]
        refine (sg_X9_loose_5 (d := d + 69) s_E).trans ?_
        rw [if_pos rfl]
        exact c4 Q
      · rw [pM, h]
        refine (sg_X10_loose_9 (d := d + 69) s_E).trans ?_
        rw [if_neg (by decide), (rs102 4).trans y2.symm, if_neg hE]
        exact m4 _ _ Q
      · unfold rTC at q; exact st a k (by unfold PLm SM; omega)
      · unfold rXC at q; exact st a k (by unfold PLm SM; omega)
      · rw [st 11 9 (by unfold PLm SM; omega), hTs, hTt]
      · rw [st 11 10 (by unfold PLm SM; omega), hFs, hFt]
      · rw [st 11 11 (by unfold PLm SM; omega), hzs, hzt]
      · rw [st a k (by unfold PLm SM; omega), ss a k (by unfold PLc SC; omega)]
      · rw [st 102 k (by unfold PLm SM; omega), rs102]
      · rw [st a k (by unfold PLm SM; omega), ss a k (by unfold PLc SC; omega)]
      · rw [st 102 k (by unfold PLm SM; omega), rs102]
      · rcases q with q | q | q
        · exact Or.inl (by omega)
        · exact Or.inl (by omega)
        · exact Or.inr (Or.inr (Or.inl q))
      · rcases q with q | q
        · exact Or.inr (Or.inl q.1)
        · exact Or.inr (Or.inr (Or.inr q))
end LOM
