/-! COUNT, CHECK -/
section CNT
variable {d : Nat} {E : pEv} {r r' r1 r2 rm rm' : Nat → Nat → Int32} {t t' : Th} {X : Tx} {Q : Option Value → pH → Prop}
theorem x_longOfAll (s_E : oE E) (ok : tOK t) (hM : tM t r) : wX (d + 3) 244 [.ref 101] (mkH E r) Q = Q (some (.int (nI (mi t)))) (mkH E r) := by
  have hn := ok.n
  refine (en_X10_longOfAll (d := d + 2) s_E).trans ?_
  exact loop_it (P := fun i a => wG (d + 2) 244 (4, [.ref 101, .int (nI a), .int (nI i)], [], mkH E r) Q) (R := fun a => Q (some (.int (nI a))) (mkH E r)) (I := fun _ _ => True) (n := t.n)
    (fun i a hi _ => by
      show wG (d + 2) 244 (4, [.ref 101, .int (nI a), .int (nI i)], [], mkH E r) Q = _
      rw [sg_X10_longOfAll_4 s_E, hM.n, if_pos (nI_lt hi (by omega))]
      refine (x_X10_its (d := d + 1) s_E (itc (f := 3) (by omega) (by decide))).trans ?_
      have e : f_X10_its r (nI i) (nI 3) = nI (t.T i) := (its_n (f := 3) (by omega) (by decide)).trans (hM.T i hi)
      rw [e]
      refine (sg_X10_longOfAll_21 (d := d + 2) s_E).trans ?_
      rw [nI_add, ← nI_succ])
    (fun _ _ _ _ => trivial)
    (fun a _ => by
      show wG (d + 2) 244 (4, [.ref 101, .int (nI a), .int (nI t.n)], [], mkH E r) Q = _
      rw [sg_X10_longOfAll_4 s_E, hM.n, if_neg (nI_nlt (Nat.le_refl _) (by omega))])
    t.n 0 0 (by omega) trivial
theorem c_t : ∀ k, k < 12 → ∀ j, j < 12 → (nI k = nI j ↔ k = j) := by decide +kernel
theorem st_count (s_E : oE E) (hI : Inv r) {x : Int32} : stI E d r 134 [.ref 10, .int x] 245 [.ref 101, .int x] := by
  obtain ⟨t, X, ok, xo, hC, hX, hM, hXM, ⟨y1, y2, y3⟩, ⟨n, b, y4⟩, w, y5⟩ := hI.1
  obtain ⟨c, v1, v2, v3, v4⟩ := hI.2.2.2.1
  have pC : ∀ Q, wX (d + 70) 134 [.ref 10, .int x] (mkH E r) Q = _ := fun Q => en_X9_count (d := d + 69) s_E
  have pM : ∀ ra Q, wX (d + 70) 245 [.ref 101, .int x] (mkH E ra) Q = _ := fun ra Q => en_X10_count (d := d + 69) s_E
  have same : ∀ v, (∀ Q, wX (d + 70) 134 [.ref 10, .int x] (mkH E r) Q = Q (some (.int v)) (mkH E r)) → (∀ Q, wX (d + 70) 245 [.ref 101, .int x] (mkH E r) Q = Q (some (.int v)) (mkH E r)) → stI E d r 134 [.ref 10, .int x] 245 [.ref 101, .int x] := fun v a1 a2 => ⟨v, r, r, a1, a2, hI⟩
  by_cases h0 : x = 0
  · exact same (r 11 7) (fun Q => by rw [pC, if_pos h0]) (fun Q => by rw [pM, if_pos h0, hC.n, hM.n])
  by_cases h1 : x = 1
  · obtain ⟨ra, s1, e1⟩ := x_guessed (d := d + 63) (E := E) s_E ok hC xo hX
    have s1' : sE SC r ra := sE_mo s1 (fun a k q => by unfold wP at q; unfold SC; omega)
    have ma : ∀ k, ra 102 k = r 102 k := fun k => s1' 102 k (by unfold SC; omega)
    obtain ⟨rb, s2, e2⟩ := x_guessedM (d := d + 15) (E := E) s_E ok (hM.fr (funext ma)) xo (xM_f xo hXM (fun k _ => ma k))
    refine ⟨nI (gs t X t.o), ra, rb, fun Q => ?_, fun Q => ?_, Inv_sm (Inv_sc hI s1') s2⟩
    · rw [pC, if_neg h0, if_pos h1]
      refine (e1 _).trans ?_
      exact sg_X9_count_79 (d := d + 69) s_E
    · rw [pM, if_neg h0, if_pos h1]
      refine (e2 _).trans ?_
      exact sg_X10_count_75 (d := d + 69) s_E
  by_cases h2 : x = 2
  · have s1' : sE SC r (fR r 21 4 (hsR t t.o).2) := fR_E (fun k _ => by unfold SC; omega)
    have ma : ∀ k, (fR r 21 4 (hsR t t.o).2) 102 k = r 102 k := fun k => s1' 102 k (by unfold SC; omega)
    obtain ⟨rb, s2, e2⟩ := x_handsM (d := d + 66) (E := E) s_E ok (hM.fr (funext ma))
    refine ⟨nI (hsR t t.o).1, fR r 21 4 (hsR t t.o).2, rb, fun Q => ?_, fun Q => ?_, Inv_sm (Inv_sc hI s1') s2⟩
    · rw [pC, if_neg h0, if_neg h1, if_pos h2]
      refine (x_X2_hands (d := d + 66) s_E ok hC).trans ?_
      exact sg_X9_count_87 (d := d + 69) s_E
    · rw [pM, if_neg h0, if_neg h1, if_pos h2]
      refine (e2 _).trans ?_
      exact sg_X10_count_80 (d := d + 69) s_E
  by_cases h3 : x = 3
  · refine same (nI (ri t)) (fun Q => ?_) (fun Q => ?_)
    · rw [pC, if_neg h0, if_neg h1, if_neg h2, if_pos h3]
      refine (x_X2_rises (d := d + 64) s_E ok hC).trans ?_
      exact sg_X9_count_95 (d := d + 69) s_E
    · rw [pM, if_neg h0, if_neg h1, if_neg h2, if_pos h3]
      refine (x_X10_rises (d := d + 64) s_E ok hM).trans ?_
      exact sg_X10_count_85 (d := d + 69) s_E
  by_cases h4 : x = 4
  · exact same (r 11 8) (fun Q => by rw [pC, if_neg h0, if_neg h1, if_neg h2, if_neg h3, if_pos h4]) (fun Q => by rw [pM, if_neg h0, if_neg h1, if_neg h2, if_neg h3, if_pos h4, hC.b, hM.b])
  by_cases h5 : x = 5
  · exact same (r 11 9) (fun Q => by rw [pC, if_neg h0, if_neg h1, if_neg h2, if_neg h3, if_neg h4, if_pos h5]) (fun Q => by rw [pM, if_neg h0, if_neg h1, if_neg h2, if_neg h3, if_neg h4, if_pos h5, y1])
  by_cases h6 : x = 6
  · exact same (r 11 10) (fun Q => by rw [pC, if_neg h0, if_neg h1, if_neg h2, if_neg h3, if_neg h4, if_neg h5, if_pos h6]) (fun Q => by rw [pM, if_neg h0, if_neg h1, if_neg h2, if_neg h3, if_neg h4, if_neg h5, if_pos h6, y2])
  by_cases h7 : x = 7
  · refine same (nI (mi t)) (fun Q => ?_) (fun Q => ?_)
    · rw [pC, if_neg h0, if_neg h1, if_neg h2, if_neg h3, if_neg h4, if_neg h5, if_neg h6, if_pos h7]
      refine (x_X2_minutes (d := d + 67) s_E ok hC).trans ?_
      exact sg_X9_count_127 (d := d + 69) s_E
    · rw [pM, if_neg h0, if_neg h1, if_neg h2, if_neg h3, if_neg h4, if_neg h5, if_neg h6, if_pos h7]
      refine (x_longOfAll (d := d + 66) s_E ok hM).trans ?_
      exact sg_X10_count_111 (d := d + 69) s_E
  by_cases h8 : x = 8
  · exact same (r 34 1) (fun Q => by rw [pC, if_neg h0, if_neg h1, if_neg h2, if_neg h3, if_neg h4, if_neg h5, if_neg h6, if_neg h7, if_pos h8]) (fun Q => by rw [pM, if_neg h0, if_neg h1, if_neg h2, if_neg h3, if_neg h4, if_neg h5, if_neg h6, if_neg h7, if_pos h8, y4.2.2.1, y4.2.2.2.1])
  by_cases h9 : x = 9
  · exact same (r 36 1) (fun Q => by rw [pC, if_neg h0, if_neg h1, if_neg h2, if_neg h3, if_neg h4, if_neg h5, if_neg h6, if_neg h7, if_neg h8, if_pos h9]) (fun Q => by rw [pM, if_neg h0, if_neg h1, if_neg h2, if_neg h3, if_neg h4, if_neg h5, if_neg h6, if_neg h7, if_neg h8, if_pos h9, y5.2.1, y5.2.2.1])
  by_cases h10 : x = 10
  · exact same (r 85 1) (fun Q => by rw [pC, if_neg h0, if_neg h1, if_neg h2, if_neg h3, if_neg h4, if_neg h5, if_neg h6, if_neg h7, if_neg h8, if_neg h9, if_pos h10]) (fun Q => by rw [pM, if_neg h0, if_neg h1, if_neg h2, if_neg h3, if_neg h4, if_neg h5, if_neg h6, if_neg h7, if_neg h8, if_neg h9, if_pos h10, v2, v3])
  by_cases h11 : x = 11
  · exact same (r 11 11) (fun Q => by rw [pC, if_neg h0, if_neg h1, if_neg h2, if_neg h3, if_neg h4, if_neg h5, if_neg h6, if_neg h7, if_neg h8, if_neg h9, if_neg h10, if_pos h11]) (fun Q => by rw [pM, if_neg h0, if_neg h1, if_neg h2, if_neg h3, if_neg h4, if_neg h5, if_neg h6, if_neg h7, if_neg h8, if_neg h9, if_neg h10, if_pos h11, y3])
  refine st_e hI (k := 1) (by decide) (fun Q => ?_) (fun Q => ?_)
  · rw [pC, if_neg h0, if_neg h1, if_neg h2, if_neg h3, if_neg h4, if_neg h5, if_neg h6, if_neg h7, if_neg h8, if_neg h9, if_neg h10, if_neg h11, er1]
    refine (x_wr (d := d + 67) s_E (by decide)).trans ?_
    exact sg_X9_count_175 (d := d + 69) s_E
  · rw [pM, if_neg h0, if_neg h1, if_neg h2, if_neg h3, if_neg h4, if_neg h5, if_neg h6, if_neg h7, if_neg h8, if_neg h9, if_neg h10, if_neg h11]
    refine (x_fin (d := d + 68) (k := 1) s_E (by decide)).trans ?_
    exact sg_X10_count_144 (d := d + 69) s_E
/-- the first wrong guess from place i on, m left: none is -1 -/
def fwG (t : Th) (X : Tx) (q : Nat → Int32) : Nat → Nat → Int32
  | 0, _ => -1
  | m + 1, i => if i < t.n then (if q i = nI (gAt t X t.o i) then fwG t X q m (i + 1) else nI i) else nI i
theorem st_check (s_E : oE E) (hI : Inv r) : stI E d r 133 [.ref 10] 243 [.ref 101] := by
  obtain ⟨t, X, ok, xo, hC, hX, hM, hXM, ⟨y1, y2, y3⟩, ⟨n, b, y4⟩, w, y5⟩ := hI.1
  obtain ⟨w1, w2, w3, w4⟩ := id y5
  have hn := ok.n
  have lpC : ∀ m i rr, i + m = w → sE SC r rr → ∃ rs, sE SC r rs ∧ ∀ Q, wG (d + 68) 35 (2, [.ref 11, .int (nI i)], [], mkH E rr) Q = Q (some (.int (fwG t X (r 37) m i))) (mkH E rs) := by
    intro m
    induction m with
    | zero =>
      intro i rr hi h1
      obtain rfl : i = w := by omega
      refine ⟨rr, h1, fun Q => ?_⟩
      refine (sg_X2_firstWrongGuess_2 (d := d + 68) s_E).trans ?_
      rw [h1 36 1 (by unfold SC; omega), w2, if_neg (nI_nlt (Nat.le_refl _) (by omega))]
      rfl
    | succ m ih =>
      intro i rr hi h1
      have e36 : rr 36 1 = nI w := (h1 36 1 (by unfold SC; omega)).trans w2
      have e117 : rr 11 7 = nI t.n := (h1 11 7 (by unfold SC; omega)).trans hC.n
      by_cases hi2 : i < t.n
      · obtain ⟨ra, s2, e2⟩ := x_guessAt (d := d + 62) (E := E) s_E ok (tC_s hC ok.n h1) xo (xC_s hX h1) hi2
        have s2' : sE SC rr ra := sE_mo s2 (fun a k q => by unfold wP at q; unfold SC; omega)
        have ek : rK rr 36 20 w := ⟨e36, w1, by decide⟩
        have go : ∀ Q, wG (d + 68) 35 (2, [.ref 11, .int (nI i)], [], mkH E rr) Q = if r 37 i = nI (gAt t X t.o i) then wG (d + 68) 35 (2, [.ref 11, .int (nI (i + 1))], [], mkH E ra) Q else Q (some (.int (nI i))) (mkH E ra) := fun Q => by
          refine (sg_X2_firstWrongGuess_2 (d := d + 68) s_E).trans ?_
          rw [e36, e117, if_pos (nI_lt (by omega) (by omega)), if_pos (nI_lt hi2 (by omega))]
          refine (x_X4_at (d := d + 67) (c_h0 := 20) s_E (oR rfl)).trans ?_
          rw [at_in ek (by omega), h1 37 i (by unfold SC; omega)]
          refine (sg_X2_firstWrongGuess_29 (d := d + 68) s_E).trans ?_
          refine (e2 _).trans ?_
          refine (sg_X2_firstWrongGuess_34 (d := d + 68) s_E).trans ?_
          rw [← nI_succ]
        by_cases hq : r 37 i = nI (gAt t X t.o i)
        · obtain ⟨rs, g1, g2⟩ := ih (i + 1) ra (by omega) (sE_tr h1 s2')
          refine ⟨rs, g1, fun Q => ?_⟩
          rw [go, if_pos hq]
          unfold fwG
          rw [if_pos hi2, if_pos hq]
          exact g2 Q
        · refine ⟨ra, sE_tr h1 s2', fun Q => ?_⟩
          rw [go, if_neg hq]
          unfold fwG
          rw [if_pos hi2, if_neg hq]
      · refine ⟨rr, h1, fun Q => ?_⟩
        refine (sg_X2_firstWrongGuess_2 (d := d + 68) s_E).trans ?_
        rw [e36, e117, if_pos (nI_lt (by omega) (by omega)), if_neg (nI_nlt (by omega) (by omega))]
        unfold fwG
        rw [if_neg hi2]
  obtain ⟨ra, c1, c2⟩ := lpC w 0 r (by omega) sE_rf
  let rb : Nat → Nat → Int32 := uI ra 36 1 0
  have rb102 : ∀ k, rb 102 k = r 102 k := fun k => (uI_o (by omega)).trans (c1 102 k (by unfold SC; omega))
  let rc : Nat → Nat → Int32 := uI rb 102 6 0
  have hMc : tM t rc := tM_f hM ok.n (fun k q => (uI_o (by unfold rTM at q; omega)).trans (rb102 k))
  have hXc : xM X rc := xM_f xo hXM (fun k q => (uI_o (by unfold rXM at q; omega)).trans (rb102 k))
  have lpM : ∀ m i rr, i + m = w → sE SM rc rr → ∃ rs, sE SM rc rs ∧ ∀ Q, wG (d + 69) 243 (18, [.ref 101, .int (nI w), .int (nI i)], [], mkH E rr) Q = Q (some (.int (fwG t X (r 37) m i + 1))) (mkH E rs) := by
    have f92 : ∀ i, i < 20 → (92 + nI i).toNatClampNeg = 92 + i ∧ ¬ (92 + nI i) < 0 := by decide +kernel
    intro m
    induction m with
    | zero =>
      intro i rr hi h1
      obtain rfl : i = w := by omega
      refine ⟨rr, h1, fun Q => ?_⟩
      refine (sg_X10_check_18 (d := d + 69) s_E (fun q => absurd q (nI_nlt (Nat.le_refl _) (by omega)))).trans ?_
      rw [if_neg (nI_nlt (Nat.le_refl _) (by omega)), show fwG t X (r 37) 0 i + 1 = 0 from (show (-1 : Int32) + 1 = 0 from by decide)]
    | succ m ih =>
      intro i rr hi h1
      obtain ⟨f1, f2⟩ := f92 i (by omega)
      have e0 : rr 102 0 = nI t.n := (h1 102 0 (by unfold SM; omega)).trans hMc.n
      have e92 : rr 102 (92 + i) = r 37 i := by
        rw [h1 102 (92 + i) (by unfold SM; omega), w4 i (by omega)]
        exact (uI_o (by omega)).trans (rb102 _)
      by_cases hi2 : i < t.n
      · obtain ⟨rd, s2, e2⟩ := x_guessOfM (d := d + 15) (E := E) s_E ok (tM_s hMc h1) xo (xM_s hXc h1) hi2
        have go : ∀ Q, wG (d + 69) 243 (18, [.ref 101, .int (nI w), .int (nI i)], [], mkH E rr) Q = if r 37 i = nI (gAt t X t.o i) then wG (d + 69) 243 (18, [.ref 101, .int (nI w), .int (nI (i + 1))], [], mkH E rd) Q else Q (some (.int (nI i + 1))) (mkH E rd) := fun Q => by
          refine (sg_X10_check_18 (d := d + 69) s_E (fun _ _ => ⟨f2, by omega⟩)).trans ?_
          rw [if_pos (nI_lt (by omega) (by omega)), e0, if_pos (nI_lt hi2 (by omega)), f1, e92]
          refine (e2 _).trans ?_
          refine (sg_X10_check_47 (d := d + 69) s_E).trans ?_
          rw [← nI_succ]
          have e1 : (1 : Int32) + nI i = nI (i + 1) := by rw [nI_succ]; exact Int32.add_comm _ _
          rw [e1]
        by_cases hq : r 37 i = nI (gAt t X t.o i)
        · obtain ⟨rs, g1, g2⟩ := ih (i + 1) rd (by omega) (sE_tr h1 s2)
          refine ⟨rs, g1, fun Q => ?_⟩
          rw [go, if_pos hq]
          unfold fwG
          rw [if_pos hi2, if_pos hq]
          exact g2 Q
        · refine ⟨rd, sE_tr h1 s2, fun Q => ?_⟩
          rw [go, if_neg hq]
          unfold fwG
          rw [if_pos hi2, if_neg hq]
      · refine ⟨rr, h1, fun Q => ?_⟩
        refine (sg_X10_check_18 (d := d + 69) s_E (fun _ _ => ⟨f2, by omega⟩)).trans ?_
        rw [if_pos (nI_lt (by omega) (by omega)), e0, if_neg (nI_nlt (by omega) (by omega)), Int32.add_comm 1]
        unfold fwG
        rw [if_neg hi2]
  obtain ⟨rd, m1, m2⟩ := lpM w 0 rc (by omega) sE_rf
  have fin : ∀ a k, (a ≠ 36 ∨ k ≠ 1) → (a ≠ 102 ∨ k ≠ 6) → rIn a k → rd a k = r a k := fun a k h1 h2 h3 => by
    rw [m1 a k (by unfold rIn rPC rsR at h3; unfold SM; omega)]
    show uI rb 102 6 0 a k = _
    rw [uI_o (by omega)]
    show uI ra 36 1 0 a k = _
    rw [uI_o (by omega)]
    exact c1 a k (by unfold rIn rPC rsR at h3; unfold SC; omega)
  refine ⟨fwG t X (r 37) w 0 + 1, rb, rd, fun Q => ?_, fun Q => ?_, Inv_pl hI ⟨t, X, ok, xo, tC_f hC ok.n (fun a k q => fin a k (by unfold rTC at q; omega) (by unfold rTC at q; omega) (Or.inl (by unfold rTC at q; unfold rPC; omega))), xC_f hX (fun a k q => fin a k (by unfold rXC at q; omega) (by unfold rXC at q; omega) (Or.inl (by unfold rXC at q; unfold rPC; omega))), tM_f hM ok.n (fun k q => fin 102 k (by omega) (by unfold rTM at q; omega) (Or.inr (Or.inl (by unfold rTM at q; omega)))), xM_f xo hXM (fun k q => fin 102 k (by omega) (by unfold rXM at q; omega) (Or.inr (Or.inl (by unfold rXM at q; omega)))), ⟨?_, ?_, ?_⟩, ⟨n, b, tp_f y4 (fun a k q => fin a k (by omega) (by omega) (Or.inl (by unfold rPC; omega))) (fun k q => fin 102 k (by omega) (by omega) (Or.inr (Or.inl (by omega))))⟩, 0, by omega, ?_, ?_, fun k hk => absurd hk (by omega)⟩ (sE_tr (r' := rb) (sE_tr (sE_mo c1 (fun a k q => Or.inr (Or.inr (Or.inl q)))) (sE_u (Or.inl (by omega)))) (sE_tr (r' := rc) (sE_u (Or.inr (Or.inl rfl))) (sE_mo m1 (fun a k q => Or.inr (Or.inr (Or.inr q))))))⟩
  · refine (en_X9_check (d := d + 69) s_E).trans ?_
    refine (en_X2_firstWrongGuess (d := d + 68) s_E).trans ?_
    refine (c2 _).trans ?_
    refine (sg_X9_check_7 (d := d + 69) s_E).trans ?_
    refine (x_X4_clear (d := d + 68) (c_h0 := 20) s_E (oR rfl)).trans ?_
    exact sg_X9_check_18 (d := d + 69) s_E
  · refine (en_X10_check (d := d + 69) s_E).trans ?_
    rw [rb102 6, w3]
    exact m2 Q
  · rw [fin 11 9 (by omega) (by omega) (Or.inl (by unfold rPC; omega)), fin 102 3 (by omega) (by omega) (Or.inr (Or.inl (by omega)))]; exact y1
  · rw [fin 11 10 (by omega) (by omega) (Or.inl (by unfold rPC; omega)), fin 102 4 (by omega) (by omega) (Or.inr (Or.inl (by omega)))]; exact y2
  · rw [fin 11 11 (by omega) (by omega) (Or.inl (by unfold rPC; omega)), fin 102 1 (by omega) (by omega) (Or.inr (Or.inl (by omega)))]; exact y3
  · rw [m1 36 1 (by unfold SM; omega)]
    exact (uI_o (by omega)).trans uI_e
  · rw [m1 102 6 (by unfold SM; omega)]
    exact uI_e
end CNT
