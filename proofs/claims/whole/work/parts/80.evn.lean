/-! EVENINGS -/
def clT (t : Th) (X : Tx) : Int32 := gvT (X 1).1 (X 1).2 1 (nI (gs t X t.o)) (nI (hsR t t.o).1) (nI (ri t))
def evI (c : Int32) : Nat → Int32 × Int32 → Int32 × Int32
  | 0, s => s
  | k + 1, s => evI c k (f_X9_held (s.1 + c) (-99999) 99999, s.2 + 1)
section EVN
variable {d : Nat} {E : pEv} {r r' r1 r2 : Nat → Nat → Int32} {t t' : Th} {X : Tx} {Q : Option Value → pH → Prop} {v : Nat → Nat}
theorem x_clap (s_E : oE E) (ok : tOK t) (hC : tC t r) (xo : xOK X) (hX : xC X r) : ∃ r', sE SC r r' ∧ ∀ Q, wX (d + 10) 41 [.ref 11] (mkH E r) Q = Q (some (.int (clT t X))) (mkH E r') := by
  obtain ⟨ra, s1, e1⟩ := x_guessed (d := d + 3) (E := E) s_E ok hC xo hX
  have s1' : sE SC r ra := sE_mo s1 (fun a k q => by unfold wP at q; unfold SC; omega)
  have hCa := tC_s hC ok.n s1'
  have s2 : sE SC ra (fR ra 21 4 (hsR t t.o).2) := fR_E (fun k _ => by unfold SC; omega)
  have hCb := tC_s hCa ok.n s2
  have hXb := xC_s (xC_s hX s1') s2
  obtain ⟨rc, s3, e3⟩ := x_gives (d := d + 5) (E := E) (x := nI (gs t X t.o)) (y := nI (hsR t t.o).1) (z := nI (ri t)) s_E (show 1 < 2 by decide) (xo 1 (by decide)) (hXb.1 1 (by decide)) (hXb.2 1 (by decide))
  refine ⟨rc, sE_tr s1' (sE_tr s2 (w2u (by decide) s3)), fun Q => ?_⟩
  refine (en_X2_clap (d := d + 9) s_E).trans ?_
  refine (e1 _).trans ?_
  refine (sg_X2_clap_8 (d := d + 9) s_E).trans ?_
  refine (x_X2_hands (d := d + 6) s_E ok hCa).trans ?_
  refine (sg_X2_clap_12 (d := d + 9) s_E).trans ?_
  refine (x_X2_rises (d := d + 4) s_E ok hCb).trans ?_
  refine (sg_X2_clap_16 (d := d + 9) s_E).trans ?_
  refine (e3 _).trans ?_
  exact sg_X2_clap_19 (d := d + 9) s_E
theorem x_evening (s_E : oE E) (ok : tOK t) (hM : tM t r) (xo : xOK X) (hX : xM X r) : ∃ r', sE SM r r' ∧ ∀ Q, wX (d + 60) 220 [.ref 101] (mkH E r) Q = Q none (mkH E (uI (uI r' 102 3 (f_X9_held (r 102 3 + clT t X) (-99999) 99999)) 102 4 (r 102 4 + 1))) := by
  obtain ⟨ra, s1, e1⟩ := x_guessedM (d := d + 5) (E := E) s_E ok hM xo hX
  have hMa := tM_s hM s1
  obtain ⟨rb, s2, e2⟩ := x_handsM (d := d + 56) (E := E) s_E ok hMa
  have hMb := tM_s hMa s2
  have hXb := xM_s (xM_s hX s1) s2
  obtain ⟨rc, s3, e3⟩ := x_textGives (d := d + 8) (E := E) (x := nI (gs t X t.o)) (y := nI (hsR t t.o).1) (z := nI (ri t)) s_E (show 1 < 2 by decide) (xo 1 (by decide)) (hXb 1 (by decide))
  have s123 : sE SM r rc := sE_tr s1 (sE_tr s2 (m51 s3))
  refine ⟨rc, s123, fun Q => ?_⟩
  refine (en_X10_evening (d := d + 59) s_E).trans ?_
  refine (e1 _).trans ?_
  refine (sg_X10_evening_17 (d := d + 59) s_E).trans ?_
  refine (e2 _).trans ?_
  refine (sg_X10_evening_21 (d := d + 59) s_E).trans ?_
  refine (x_X10_rises (d := d + 54) s_E ok hMb).trans ?_
  refine (sg_X10_evening_25 (d := d + 59) s_E).trans ?_
  refine (e3 _).trans ?_
  refine (sg_X10_evening_28 (d := d + 59) s_E).trans ?_
  refine (x_X10_held (d := d + 58) s_E).trans ?_
  refine (sg_X10_evening_36 (d := d + 59) s_E ⟨by decide, by decide⟩).trans ?_
  have e33 : (3 : Int32).toNatClampNeg = 3 := by decide
  rw [e33, ← held_eq (by decide), uI_o (r := rc) (by omega), s123 102 4 (by unfold SM; omega)]
  rfl
def PE : Nat → Nat → Prop := fun a k => (a = 11 ∧ (k = 9 ∨ k = 10)) ∨ SC a k
def PF : Nat → Nat → Prop := fun a k => (a = 102 ∧ (k = 3 ∨ k = 4)) ∨ SM a k
theorem tC_E (hC : tC t r) (ok : tOK t) (s : sE PE r r') : tC t r' := tC_f hC ok.n (fun a k q => s a k (by unfold rTC at q; unfold PE SC; omega))
theorem xC_E (hX : xC X r) (s : sE PE r r') : xC X r' := by
  refine ⟨fun u hu => ?_, fun u hu => ?_⟩
  · obtain ⟨h1, h2⟩ := hX.1 u hu
    refine ⟨?_, fun k hk => ?_⟩
    · rw [s _ _ (by unfold PE SC; omega)]; exact h1
    · rw [s _ _ (by unfold PE SC; omega)]; exact h2 k hk
  · rw [s _ _ (by unfold PE SC; omega)]; exact hX.2 u hu
theorem tM_F (hM : tM t r) (ok : tOK t) (s : sE PF r r') : tM t r' := tM_f hM ok.n (fun k q => s 102 k (by unfold rTM at q; unfold PF SM; omega))
theorem xM_F (xo : xOK X) (hX : xM X r) (s : sE PF r r') : xM X r' := xM_f xo hX (fun k q => s 102 k (by unfold rXM at q; unfold PF SM; omega))
theorem st_evenings (s_E : oE E) (hI : Inv r) {x : Int32} : stI E d r 120 [.ref 10, .int x] 221 [.ref 101, .int x] := by
  obtain ⟨t, X, ok, xo, hC, hX, hM, hXM, ⟨y1, y2, y3⟩, ⟨n, b, y4⟩, w, y5⟩ := hI.1
  have gM : f_X10_in x.toInt64 1 200 = f_X9_within x 1 200 := in_l (a := 1) (b := 200)
  have pC : ∀ Q, wX (d + 70) 120 [.ref 10, .int x] (mkH E r) Q = wG (d + 69) 120 (5, [.ref 10, .int x, .retAddr 0, .retAddr 0, .retAddr 0], [.int (f_X9_errorOfEvenings r x)], mkH E r) Q := fun Q => (en_X9_evenings (d := d + 69) s_E).trans (x_X9_errorOfEvenings (d := d + 67) s_E)
  have pM : ∀ ra Q, wX (d + 70) 221 [.ref 101, .int x] (mkH E ra) Q = wG (d + 69) 221 (9, [.ref 101, .int x, .retAddr 0], [.int (f_X9_within x 1 200)], mkH E ra) Q := fun ra Q => by
    refine (en_X10_evenings (d := d + 69) s_E).trans ?_
    refine (x_X10_in (d := d + 68) s_E).trans ?_
    rw [gM]
    rfl
  rcases wi_v (x := x) (a := 1) (m := 200) (by decide) (by decide) with h | ⟨m, hm1, hm, rfl, h⟩
  · have h : f_X9_within x 1 200 = 0 := h
    refine st_e hI (k := 1) (by decide) (fun Q => ?_) (fun Q => ?_)
    · rw [pC]
      unfold f_X9_errorOfEvenings
      rw [h, if_pos rfl]
      refine (sg_X9_evenings_5 (d := d + 69) s_E).trans ?_
      rw [if_neg (by decide), er1]
      refine (x_wr (d := d + 67) s_E (by decide)).trans ?_
      exact sg_X9_evenings_15 (d := d + 69) s_E
    · rw [pM, h]
      refine (sg_X10_evenings_9 (d := d + 69) s_E).trans ?_
      rw [if_pos rfl]
      refine (x_fin (d := d + 68) (k := 1) s_E (by decide)).trans ?_
      exact sg_X10_evenings_17 (d := d + 69) s_E
  · have h : f_X9_within (nI m) 1 200 = 1 := h
    by_cases hE : 9999 < (r 11 10) + nI m
    · refine st_e hI (k := 3) (by decide) (fun Q => ?_) (fun Q => ?_)
      · rw [pC]
        unfold f_X9_errorOfEvenings
        rw [h, if_neg (by decide), if_pos hE]
        refine (sg_X9_evenings_5 (d := d + 69) s_E).trans ?_
        rw [if_neg (by decide), er3]
        refine (x_wr (d := d + 67) s_E (by decide)).trans ?_
        exact sg_X9_evenings_15 (d := d + 69) s_E
      · rw [pM, h]
        refine (sg_X10_evenings_9 (d := d + 69) s_E).trans ?_
        have e4 : (eC r 3) 102 4 = r 11 10 := (uI_o (by omega)).trans y2.symm
        rw [if_neg (by decide), e4, if_pos hE]
        refine (x_fin (d := d + 68) (k := 3) s_E (by decide)).trans ?_
        exact sg_X10_evenings_37 (d := d + 69) s_E
    · obtain ⟨ra, s1, e1⟩ := x_clap (d := d + 59) (E := E) s_E ok hC xo hX
      have lpC : ∀ j i rr T F, i + j = m → rr 11 9 = T → rr 11 10 = F → sE PE r rr → ∃ rs, rs 11 9 = (evI (clT t X) j (T, F)).1 ∧ rs 11 10 = (evI (clT t X) j (T, F)).2 ∧ sE PE r rs ∧ ∀ Q, wG (d + 69) 120 (27, [.ref 10, .int (nI m), .int 0, .int (clT t X), .int (nI i)], [], mkH E rr) Q = Q (some (.int (evI (clT t X) j (T, F)).1)) (mkH E rs) := by
        intro j
        induction j with
        | zero =>
          intro i rr T F hi h1 h2 h3
          obtain rfl : i = m := by omega
          refine ⟨rr, h1, h2, h3, fun Q => ?_⟩
          refine (sg_X9_evenings_27 (d := d + 69) s_E).trans ?_
          rw [if_neg (nI_nlt (Nat.le_refl _) (by omega)), h1]
          rfl
        | succ j ih =>
          intro i rr T F hi h1 h2 h3
          obtain ⟨rs, g1, g2, g3, g4⟩ := ih (i + 1) (uI (uI rr 11 9 (f_X9_held (T + clT t X) (-99999) 99999)) 11 10 (F + 1)) (f_X9_held (T + clT t X) (-99999) 99999) (F + 1) (by omega) (by rw [uI_o (by omega), uI_e]) uI_e (sE_tr h3 (sE_tr (sE_u (Or.inl (by omega))) (sE_u (Or.inl (by omega)))))
          refine ⟨rs, g1, g2, g3, fun Q => ?_⟩
          refine (sg_X9_evenings_27 (d := d + 69) s_E).trans ?_
          rw [if_pos (nI_lt (by omega) (by omega))]
          refine (x_X2_giveEvening (d := d + 67) s_E).trans ?_
          refine (sg_X9_evenings_41 (d := d + 69) s_E).trans ?_
          unfold g_X2_giveEvening
          rw [h1, uI_o (r := rr) (by omega), h2, ← nI_succ]
          exact g4 Q
      have ra9 : ra 11 9 = r 11 9 := s1 _ _ (by unfold SC; omega)
      have ra10 : ra 11 10 = r 11 10 := s1 _ _ (by unfold SC; omega)
      obtain ⟨rs, c1, c2, c3, c4⟩ := lpC m 0 ra (r 11 9) (r 11 10) (by omega) ra9 ra10 (sE_mo s1 (fun a k q => Or.inr q))
      have rs102 : ∀ k, rs 102 k = r 102 k := fun k => c3 102 k (by unfold PE SC; omega)
      have hMs : tM t rs := hM.fr (funext rs102)
      have hXMs : xM X rs := xM_f xo hXM (fun k _ => rs102 k)
      have lpM : ∀ j i rr T F, i + j = m → rr 102 3 = T → rr 102 4 = F → sE PF rs rr → ∃ rt, rt 102 3 = (evI (clT t X) j (T, F)).1 ∧ rt 102 4 = (evI (clT t X) j (T, F)).2 ∧ sE PF rs rt ∧ ∀ Q, wG (d + 69) 221 (40, [.ref 101, .int (nI m), .int (nI i)], [], mkH E rr) Q = Q (some (.int (evI (clT t X) j (T, F)).1)) (mkH E rt) := by
        intro j
        induction j with
        | zero =>
          intro i rr T F hi h1 h2 h3
          obtain rfl : i = m := by omega
          refine ⟨rr, h1, h2, h3, fun Q => ?_⟩
          refine (sg_X10_evenings_40 (d := d + 69) s_E).trans ?_
          rw [if_neg (nI_nlt (Nat.le_refl _) (by omega)), h1]
          rfl
        | succ j ih =>
          intro i rr T F hi h1 h2 h3
          obtain ⟨rq, s4, e4⟩ := x_evening (d := d + 9) (E := E) s_E ok (tM_F hMs ok h3) xo (xM_F xo hXMs h3)
          rw [h1, h2] at e4
          obtain ⟨rt, g1, g2, g3, g4⟩ := ih (i + 1) (uI (uI rq 102 3 (f_X9_held (T + clT t X) (-99999) 99999)) 102 4 (F + 1)) (f_X9_held (T + clT t X) (-99999) 99999) (F + 1) (by omega) (by rw [uI_o (by omega), uI_e]) uI_e (sE_tr h3 (sE_tr (sE_mo s4 (fun a k q => Or.inr q)) (sE_tr (sE_u (Or.inl (by omega))) (sE_u (Or.inl (by omega))))))
          refine ⟨rt, g1, g2, g3, fun Q => ?_⟩
          refine (sg_X10_evenings_40 (d := d + 69) s_E).trans ?_
          rw [if_pos (nI_lt (by omega) (by omega))]
          refine (e4 _).trans ?_
          refine (sg_X10_evenings_49 (d := d + 69) s_E).trans ?_
          rw [← nI_succ]
          exact g4 Q
      obtain ⟨rt, m1, m2, m3, m4⟩ := lpM m 0 rs (r 11 9) (r 11 10) (by omega) ((rs102 3).trans y1.symm) ((rs102 4).trans y2.symm) sE_rf
      have hC2 : tC t rt := tC_f (tC_E hC ok c3) ok.n (fun a k q => m3 a k (by unfold rTC at q; unfold PF SM; omega))
      have hX2 : xC X rt := xC_f (xC_E hX c3) (fun a k q => m3 a k (by unfold rXC at q; unfold PF SM; omega))
      refine ⟨(evI (clT t X) m (r 11 9, r 11 10)).1, rs, rt, fun Q => ?_, fun Q => ?_, Inv_pl hI ⟨t, X, ok, xo, hC2, hX2, tM_F hMs ok m3, xM_F xo hXMs m3, ⟨?_, ?_, ?_⟩, ⟨n, b, tp_f y4 (fun a k q => ?_) (fun k q => ?_)⟩, w, wt_f y5 (fun a k q => ?_) (fun k q => ?_)⟩ (sE_tr (sE_mo c3 (fun a k q => ?_)) (sE_mo m3 (fun a k q => ?_)))⟩
      · rw [pC]
        unfold f_X9_errorOfEvenings
        rw [h, if_neg (by decide), if_neg hE]
        refine (sg_X9_evenings_5 (d := d + 69) s_E).trans ?_
        rw [if_pos rfl]
        refine (e1 _).trans ?_
        refine (sg_X9_evenings_23 (d := d + 69) s_E).trans ?_
        exact c4 Q
      · rw [pM, h]
        refine (sg_X10_evenings_9 (d := d + 69) s_E).trans ?_
        rw [if_neg (by decide), (rs102 4).trans y2.symm, if_neg hE]
        exact m4 Q
      · rw [m3 11 9 (by unfold PF SM; omega), c1, m1]
      · rw [m3 11 10 (by unfold PF SM; omega), c2, m2]
      · rw [m3 11 11 (by unfold PF SM; omega), c3 11 11 (by unfold PE SC; omega), m3 102 1 (by unfold PF SM; omega), rs102]; exact y3
      · rw [m3 a k (by unfold PF SM; omega), c3 a k (by unfold PE SC; omega)]
      · rw [m3 102 k (by unfold PF SM; omega), rs102]
      · rw [m3 a k (by unfold PF SM; omega), c3 a k (by unfold PE SC; omega)]
      · rw [m3 102 k (by unfold PF SM; omega), rs102]
      · rcases q with q | q
        · exact Or.inl (by omega)
        · exact Or.inr (Or.inr (Or.inl q))
      · rcases q with q | q
        · exact Or.inr (Or.inl q.1)
        · exact Or.inr (Or.inr (Or.inr q))
end EVN
