/-! ONE ROUND OF THE LAW -/
section LWR
variable {d : Nat} {E : pEv} {r : Nat → Nat → Int32}
theorem x6_t {i j N : Nat} (hN : N ≤ 3072) (h : i + j < N) : ¬ (nI i + nI j) < 0 ∧ (nI i + nI j).toNatClampNeg < N := by
  rw [nI_add]
  exact ⟨nI_pos (by omega), by rw [nI_clamp (by omega)]; exact h⟩
theorem lw_end (s_E : oE E) (hN : E.1 ≤ 3072) {i : Nat} (h : (Int32.ofNat E.1) - 6 < nI i) {Q : Option Value → pH → Prop} (hi : i ≤ 4000) : wG (d + 70) 258 (18, [.ref 9, .ref 10, .ref 101, .int (nI i)], [], mkH E r) Q = Q (some (.int 1)) (mkH E r) := by
  refine (sg_L_law_18 (d := d + 70) s_E (fun q => absurd h q) (fun q _ => absurd h q) (fun q _ => absurd h q) (fun q _ => absurd h q) (fun q _ => absurd h q) (fun q _ _ => absurd h q) (fun q _ _ => absurd h q) (fun q _ _ => absurd h q) (fun q _ _ => absurd h q) (fun q _ _ _ => absurd h q) (fun q _ _ _ => absurd h q) (fun q _ _ _ _ => absurd h q) (fun q _ _ _ _ => absurd h q) (fun q _ _ _ _ _ => absurd h q) (fun q _ _ _ _ _ => absurd h q) (fun q _ _ _ _ _ _ => absurd h q) (fun q _ _ _ _ _ _ => absurd h q) (fun q _ _ _ _ _ _ => absurd h q) (fun q _ _ _ _ _ _ _ _ => absurd h q) (fun q _ _ _ _ _ _ _ _ _ => absurd h q) (fun q _ _ _ _ _ _ _ _ _ => absurd h q) (fun q _ _ _ _ _ _ _ _ _ _ => absurd h q) (fun q _ _ _ _ _ _ _ _ _ _ _ => absurd h q) (fun q _ _ _ _ _ _ _ _ _ _ _ _ => absurd h q) (fun q _ _ _ _ _ _ _ _ _ _ _ _ _ _ _ => absurd h q) (fun q _ _ _ _ _ _ _ _ _ _ _ _ _ _ _ => absurd h q) (fun q _ _ _ _ _ _ _ _ _ _ _ _ _ _ _ => absurd h q) (fun q _ _ _ _ _ _ _ _ _ _ _ _ _ _ _ _ => absurd h q) (fun q _ _ _ _ _ _ _ _ _ _ _ _ _ _ _ _ _ => absurd h q) (fun q _ _ _ _ _ _ _ _ _ _ _ _ _ _ _ _ _ => absurd h q) (fun q _ _ _ _ _ _ _ _ _ _ _ _ _ _ _ _ _ => absurd h q) (fun q _ _ _ _ _ _ _ _ _ _ _ _ _ _ _ _ _ => absurd h q) (fun q _ _ _ _ _ _ _ _ _ _ _ _ _ _ _ _ _ _ => absurd h q) (fun q _ _ _ _ _ _ _ _ _ _ _ _ _ _ _ _ _ _ _ => absurd h q) (fun q _ _ _ _ _ _ _ _ _ _ _ _ _ _ _ _ _ _ _ _ => absurd h q) (fun q _ _ _ _ _ _ _ _ _ _ _ _ _ _ _ _ _ _ _ _ _ => absurd h q) (fun q _ _ _ _ _ _ _ _ _ _ _ _ _ _ _ _ _ _ _ _ _ => absurd h q) (fun q _ _ _ _ _ _ _ _ _ _ _ _ _ _ _ _ _ _ _ _ _ => absurd h q) (fun q _ _ _ _ _ _ _ _ _ _ _ _ _ _ _ _ _ _ _ _ _ _ => absurd h q) (fun q _ _ _ _ _ _ _ _ _ _ _ _ _ _ _ _ _ _ _ _ _ _ _ _ => absurd h q) (fun q _ _ _ _ _ _ _ _ _ _ _ _ _ _ _ _ _ _ _ _ _ _ _ _ => absurd h q) (fun q _ _ _ _ _ _ _ _ _ _ _ _ _ _ _ _ _ _ _ _ _ _ _ _ _ => absurd h q) (fun q _ _ _ _ _ _ _ _ _ _ _ _ _ _ _ _ _ _ _ _ _ _ _ _ _ _ => absurd h q) (fun q _ _ _ _ _ _ _ _ _ _ _ _ _ _ _ _ _ _ _ _ _ _ _ _ _ _ _ => absurd h q) (fun q _ _ _ _ _ _ _ _ _ _ _ _ _ _ _ _ _ _ _ _ _ _ _ _ _ _ _ _ => absurd h q) (fun q _ _ _ _ _ _ _ _ _ _ _ _ _ _ _ _ _ _ _ _ _ _ _ _ _ _ _ _ => absurd h q) (fun q _ _ _ _ _ _ _ _ _ _ _ _ _ _ _ _ _ _ _ _ _ _ _ _ _ _ _ _ => absurd h q) (fun q _ _ _ _ _ _ _ _ _ _ _ _ _ _ _ _ _ _ _ _ _ _ _ _ _ _ _ _ _ => absurd h q) (fun q _ _ _ _ _ _ _ _ _ _ _ _ _ _ _ _ _ _ _ _ _ _ _ _ _ _ _ _ _ _ => absurd h q) (fun q _ _ _ _ _ _ _ _ _ _ _ _ _ _ _ _ _ _ _ _ _ _ _ _ _ _ _ _ _ _ => absurd h q) (fun q _ _ _ _ _ _ _ _ _ _ _ _ _ _ _ _ _ _ _ _ _ _ _ _ _ _ _ _ _ _ => absurd h q) (fun q _ _ _ _ _ _ _ _ _ _ _ _ _ _ _ _ _ _ _ _ _ _ _ _ _ _ _ _ _ _ _ => absurd h q) (fun q _ _ _ _ _ _ _ _ _ _ _ _ _ _ _ _ _ _ _ _ _ _ _ _ _ _ _ _ _ _ _ => absurd h q) (fun q _ _ _ _ _ _ _ _ _ _ _ _ _ _ _ _ _ _ _ _ _ _ _ _ _ _ _ _ _ _ _ => absurd h q) (fun q _ _ _ _ _ _ _ _ _ _ _ _ _ _ _ _ _ _ _ _ _ _ _ _ _ _ _ _ _ _ _ _ => absurd h q) (fun q _ _ _ _ _ _ _ _ _ _ _ _ _ _ _ _ _ _ _ _ _ _ _ _ _ _ _ _ _ _ _ _ => absurd h q) (fun q _ _ _ _ _ _ _ _ _ _ _ _ _ _ _ _ _ _ _ _ _ _ _ _ _ _ _ _ _ _ _ _ => absurd h q) (fun q _ _ _ _ _ _ _ _ _ _ _ _ _ _ _ _ _ _ _ _ _ _ _ _ _ _ _ _ _ _ _ _ => absurd h q) (fun q _ _ _ _ _ _ _ _ _ _ _ _ _ _ _ _ _ _ _ _ _ _ _ _ _ _ _ _ _ _ _ _ => absurd h q) (fun q _ _ _ _ _ _ _ _ _ _ _ _ _ _ _ _ _ _ _ _ _ _ _ _ _ _ _ _ _ _ _ _ _ => absurd h q) (fun q _ _ _ _ _ _ _ _ _ _ _ _ _ _ _ _ _ _ _ _ _ _ _ _ _ _ _ _ _ _ _ _ _ _ => absurd h q) (fun q _ _ _ _ _ _ _ _ _ _ _ _ _ _ _ _ _ _ _ _ _ _ _ _ _ _ _ _ _ _ _ _ _ _ _ _ _ => absurd h q) (fun q _ _ _ _ _ _ _ _ _ _ _ _ _ _ _ _ _ _ _ _ _ _ _ _ _ _ _ _ _ _ _ _ _ _ _ _ _ _ _ => absurd h q) (fun q _ _ _ _ _ _ _ _ _ _ _ _ _ _ _ _ _ _ _ _ _ _ _ _ _ _ _ _ _ _ _ _ _ _ _ _ _ _ _ _ => absurd h q)).trans ?_
  rw [if_pos h]
theorem lw_step (s_E : oE E) (hN : E.1 ≤ 3072) {i : Nat} (h6 : i + 6 ≤ E.1) (hI : Inv r) : ∃ r2, Inv r2 ∧ ∀ Q, wG (d + 70) 258 (18, [.ref 9, .ref 10, .ref 101, .int (nI i)], [], mkH E r) Q = wG (d + 70) 258 (18, [.ref 9, .ref 10, .ref 101, .int (nI (i + 6))], [], mkH E r2) Q := by
  have hx0 : ¬ nI i < 0 ∧ (nI i).toNatClampNeg < E.1 := ⟨nI_pos (by omega), by rw [nI_clamp (by omega)]; omega⟩
  have hx1 : ¬ (nI i + 1) < 0 ∧ (nI i + 1).toNatClampNeg < E.1 := x6_t (j := 1) hN (by omega)
  have hx2 : ¬ (nI i + 2) < 0 ∧ (nI i + 2).toNatClampNeg < E.1 := x6_t (j := 2) hN (by omega)
  have hx3 : ¬ (nI i + 3) < 0 ∧ (nI i + 3).toNatClampNeg < E.1 := x6_t (j := 3) hN (by omega)
  have hx4 : ¬ (nI i + 4) < 0 ∧ (nI i + 4).toNatClampNeg < E.1 := x6_t (j := 4) hN (by omega)
  have hx5 : ¬ (nI i + 5) < 0 ∧ (nI i + 5).toNatClampNeg < E.1 := x6_t (j := 5) hN (by omega)
  have n6 : nI i + 6 = nI (i + 6) := nI_add (a := i) (b := 6)
  have hge : ¬ (Int32.ofNat E.1) - 6 < nI i := by
    have e : (Int32.ofNat E.1) - 6 = nI (E.1 - 6) := by
      have : nI E.1 = nI (E.1 - 6) + nI 6 := by rw [nI_add]; congr 1; omega
      show nI E.1 - nI 6 = _
      rw [this, Int32.add_sub_cancel]
    rw [e]
    exact nI_nlt (by omega) (by omega)
  have en : ∀ Q, wG (d + 70) 258 (18, [.ref 9, .ref 10, .ref 101, .int (nI i)], [], mkH E r) Q = _ := fun Q => (sg_L_law_18 (d := d + 70) s_E (fun _ => hx0) (fun _ _ => hx1) (fun _ _ => hx2) (fun _ _ => hx3) (fun _ _ => hx4) (fun _ _ _ => hx1) (fun _ _ _ => hx2) (fun _ _ _ => hx3) (fun _ _ _ => hx4) (fun _ _ _ _ => hx1) (fun _ _ _ _ => hx2) (fun _ _ _ _ _ => hx1) (fun _ _ _ _ _ => hx2) (fun _ _ _ _ _ _ => hx1) (fun _ _ _ _ _ _ => hx2) (fun _ _ _ _ _ _ _ => hx1) (fun _ _ _ _ _ _ _ => hx2) (fun _ _ _ _ _ _ _ => hx3) (fun _ _ _ _ _ _ _ _ _ => hx1) (fun _ _ _ _ _ _ _ _ _ _ => hx1) (fun _ _ _ _ _ _ _ _ _ _ => hx2) (fun _ _ _ _ _ _ _ _ _ _ _ => hx1) (fun _ _ _ _ _ _ _ _ _ _ _ _ => hx1) (fun _ _ _ _ _ _ _ _ _ _ _ _ _ => hx1) (fun _ _ _ _ _ _ _ _ _ _ _ _ _ _ _ _ => hx1) (fun _ _ _ _ _ _ _ _ _ _ _ _ _ _ _ _ => hx2) (fun _ _ _ _ _ _ _ _ _ _ _ _ _ _ _ _ => hx3) (fun _ _ _ _ _ _ _ _ _ _ _ _ _ _ _ _ _ => hx1) (fun _ _ _ _ _ _ _ _ _ _ _ _ _ _ _ _ _ _ => hx1) (fun _ _ _ _ _ _ _ _ _ _ _ _ _ _ _ _ _ _ => hx2) (fun _ _ _ _ _ _ _ _ _ _ _ _ _ _ _ _ _ _ => hx3) (fun _ _ _ _ _ _ _ _ _ _ _ _ _ _ _ _ _ _ => hx4) (fun _ _ _ _ _ _ _ _ _ _ _ _ _ _ _ _ _ _ _ => hx1) (fun _ _ _ _ _ _ _ _ _ _ _ _ _ _ _ _ _ _ _ _ => hx1) (fun _ _ _ _ _ _ _ _ _ _ _ _ _ _ _ _ _ _ _ _ _ => hx1) (fun _ _ _ _ _ _ _ _ _ _ _ _ _ _ _ _ _ _ _ _ _ _ => hx1) (fun _ _ _ _ _ _ _ _ _ _ _ _ _ _ _ _ _ _ _ _ _ _ => hx2) (fun _ _ _ _ _ _ _ _ _ _ _ _ _ _ _ _ _ _ _ _ _ _ => hx3) (fun _ _ _ _ _ _ _ _ _ _ _ _ _ _ _ _ _ _ _ _ _ _ _ => hx1) (fun _ _ _ _ _ _ _ _ _ _ _ _ _ _ _ _ _ _ _ _ _ _ _ _ _ => hx1) (fun _ _ _ _ _ _ _ _ _ _ _ _ _ _ _ _ _ _ _ _ _ _ _ _ _ => hx2) (fun _ _ _ _ _ _ _ _ _ _ _ _ _ _ _ _ _ _ _ _ _ _ _ _ _ _ => hx1) (fun _ _ _ _ _ _ _ _ _ _ _ _ _ _ _ _ _ _ _ _ _ _ _ _ _ _ _ => hx1) (fun _ _ _ _ _ _ _ _ _ _ _ _ _ _ _ _ _ _ _ _ _ _ _ _ _ _ _ _ => hx1) (fun _ _ _ _ _ _ _ _ _ _ _ _ _ _ _ _ _ _ _ _ _ _ _ _ _ _ _ _ _ => hx1) (fun _ _ _ _ _ _ _ _ _ _ _ _ _ _ _ _ _ _ _ _ _ _ _ _ _ _ _ _ _ => hx2) (fun _ _ _ _ _ _ _ _ _ _ _ _ _ _ _ _ _ _ _ _ _ _ _ _ _ _ _ _ _ => hx3) (fun _ _ _ _ _ _ _ _ _ _ _ _ _ _ _ _ _ _ _ _ _ _ _ _ _ _ _ _ _ _ => hx1) (fun _ _ _ _ _ _ _ _ _ _ _ _ _ _ _ _ _ _ _ _ _ _ _ _ _ _ _ _ _ _ _ => hx1) (fun _ _ _ _ _ _ _ _ _ _ _ _ _ _ _ _ _ _ _ _ _ _ _ _ _ _ _ _ _ _ _ => hx2) (fun _ _ _ _ _ _ _ _ _ _ _ _ _ _ _ _ _ _ _ _ _ _ _ _ _ _ _ _ _ _ _ => hx3) (fun _ _ _ _ _ _ _ _ _ _ _ _ _ _ _ _ _ _ _ _ _ _ _ _ _ _ _ _ _ _ _ _ => hx1) (fun _ _ _ _ _ _ _ _ _ _ _ _ _ _ _ _ _ _ _ _ _ _ _ _ _ _ _ _ _ _ _ _ => hx2) (fun _ _ _ _ _ _ _ _ _ _ _ _ _ _ _ _ _ _ _ _ _ _ _ _ _ _ _ _ _ _ _ _ => hx3) (fun _ _ _ _ _ _ _ _ _ _ _ _ _ _ _ _ _ _ _ _ _ _ _ _ _ _ _ _ _ _ _ _ _ => hx1) (fun _ _ _ _ _ _ _ _ _ _ _ _ _ _ _ _ _ _ _ _ _ _ _ _ _ _ _ _ _ _ _ _ _ => hx2) (fun _ _ _ _ _ _ _ _ _ _ _ _ _ _ _ _ _ _ _ _ _ _ _ _ _ _ _ _ _ _ _ _ _ => hx3) (fun _ _ _ _ _ _ _ _ _ _ _ _ _ _ _ _ _ _ _ _ _ _ _ _ _ _ _ _ _ _ _ _ _ => hx4) (fun _ _ _ _ _ _ _ _ _ _ _ _ _ _ _ _ _ _ _ _ _ _ _ _ _ _ _ _ _ _ _ _ _ => hx5) (fun _ _ _ _ _ _ _ _ _ _ _ _ _ _ _ _ _ _ _ _ _ _ _ _ _ _ _ _ _ _ _ _ _ _ => hx1) (fun _ _ _ _ _ _ _ _ _ _ _ _ _ _ _ _ _ _ _ _ _ _ _ _ _ _ _ _ _ _ _ _ _ _ _ => hx1) (fun _ _ _ _ _ _ _ _ _ _ _ _ _ _ _ _ _ _ _ _ _ _ _ _ _ _ _ _ _ _ _ _ _ _ _ _ _ _ => hx1) (fun _ _ _ _ _ _ _ _ _ _ _ _ _ _ _ _ _ _ _ _ _ _ _ _ _ _ _ _ _ _ _ _ _ _ _ _ _ _ _ _ => hx1) (fun _ _ _ _ _ _ _ _ _ _ _ _ _ _ _ _ _ _ _ _ _ _ _ _ _ _ _ _ _ _ _ _ _ _ _ _ _ _ _ _ _ => hx1)).trans (if_neg hge)
  generalize hK : (E.2.1 (nI i).toNatClampNeg) &&& 63 = K at en
  by_cases h0 : K = 0
  · have sp : stI E d r 96 [.ref 10, .int (E.2.1 ((nI i) + 1).toNatClampNeg), .int (E.2.1 ((nI i) + 2).toNatClampNeg), .int (E.2.1 ((nI i) + 3).toNatClampNeg), .int (E.2.1 ((nI i) + 4).toNatClampNeg)] 181 [.ref 101, .int (E.2.1 ((nI i) + 1).toNatClampNeg), .int (E.2.1 ((nI i) + 2).toNatClampNeg), .int (E.2.1 ((nI i) + 3).toNatClampNeg), .int (E.2.1 ((nI i) + 4).toNatClampNeg)] := st_scene (d := d) s_E hI
    obtain ⟨v, r1, r2, c1, m1, i2⟩ := sp
    refine ⟨r2, i2, fun Q => ?_⟩
    rw [en, if_pos h0]
    refine (c1 _).trans ?_
    refine (sg_L_law_232 (d := d + 70) s_E hx1 hx2 hx3 hx4).trans ?_
    refine (m1 _).trans ?_
    refine (sg_L_law_256 (d := d + 70) s_E).trans ?_
    rw [if_pos rfl, n6]
  by_cases h1 : K = 1
  · have sp : stI E d r 97 [.ref 10, .int (E.2.1 ((nI i) + 1).toNatClampNeg), .int (E.2.1 ((nI i) + 2).toNatClampNeg), .int (E.2.1 ((nI i) + 3).toNatClampNeg), .int (E.2.1 ((nI i) + 4).toNatClampNeg)] 182 [.ref 101, .int (E.2.1 ((nI i) + 1).toNatClampNeg), .int (E.2.1 ((nI i) + 2).toNatClampNeg), .int (E.2.1 ((nI i) + 3).toNatClampNeg), .int (E.2.1 ((nI i) + 4).toNatClampNeg)] := st_prop (d := d) s_E hI
    obtain ⟨v, r1, r2, c1, m1, i2⟩ := sp
    refine ⟨r2, i2, fun Q => ?_⟩
    rw [en, if_neg h0, if_pos h1]
    refine (c1 _).trans ?_
    refine (sg_L_law_285 (d := d + 70) s_E hx1 hx2 hx3 hx4).trans ?_
    refine (m1 _).trans ?_
    refine (sg_L_law_309 (d := d + 70) s_E).trans ?_
    rw [if_pos rfl, n6]
  by_cases h2 : K = 2
  · have sp : stI E d r 98 [.ref 10, .int (E.2.1 ((nI i) + 1).toNatClampNeg), .int (E.2.1 ((nI i) + 2).toNatClampNeg)] 183 [.ref 101, .int (E.2.1 ((nI i) + 1).toNatClampNeg), .int (E.2.1 ((nI i) + 2).toNatClampNeg)] := RO_st (d := d) hI (fun t X ok xo => by first | exact ro_ofScene s_E ok xo | exact ro_ofScene s_E ok | exact ro_ofScene s_E xo)
    obtain ⟨v, r1, r2, c1, m1, i2⟩ := sp
    refine ⟨r2, i2, fun Q => ?_⟩
    rw [en, if_neg h0, if_neg h1, if_pos h2]
    refine (c1 _).trans ?_
    refine (sg_L_law_328 (d := d + 70) s_E hx1 hx2).trans ?_
    refine (m1 _).trans ?_
    refine (sg_L_law_342 (d := d + 70) s_E).trans ?_
    rw [if_pos rfl, n6]
  by_cases h3 : K = 3
  · have sp : stI E d r 99 [.ref 10, .int (E.2.1 ((nI i) + 1).toNatClampNeg), .int (E.2.1 ((nI i) + 2).toNatClampNeg)] 184 [.ref 101, .int (E.2.1 ((nI i) + 1).toNatClampNeg), .int (E.2.1 ((nI i) + 2).toNatClampNeg)] := st_become (d := d) s_E hI
    obtain ⟨v, r1, r2, c1, m1, i2⟩ := sp
    refine ⟨r2, i2, fun Q => ?_⟩
    rw [en, if_neg h0, if_neg h1, if_neg h2, if_pos h3]
    refine (c1 _).trans ?_
    refine (sg_L_law_361 (d := d + 70) s_E hx1 hx2).trans ?_
    refine (m1 _).trans ?_
    refine (sg_L_law_375 (d := d + 70) s_E).trans ?_
    rw [if_pos rfl, n6]
  by_cases h4 : K = 4
  · have sp : stI E d r 100 [.ref 10, .int (E.2.1 ((nI i) + 1).toNatClampNeg), .int (E.2.1 ((nI i) + 2).toNatClampNeg)] 185 [.ref 101, .int (E.2.1 ((nI i) + 1).toNatClampNeg), .int (E.2.1 ((nI i) + 2).toNatClampNeg)] := RO_st (d := d) hI (fun t X ok xo => by first | exact ro_as s_E ok xo | exact ro_as s_E ok | exact ro_as s_E xo)
    obtain ⟨v, r1, r2, c1, m1, i2⟩ := sp
    refine ⟨r2, i2, fun Q => ?_⟩
    rw [en, if_neg h0, if_neg h1, if_neg h2, if_neg h3, if_pos h4]
    refine (c1 _).trans ?_
    refine (sg_L_law_394 (d := d + 70) s_E hx1 hx2).trans ?_
    refine (m1 _).trans ?_
    refine (sg_L_law_408 (d := d + 70) s_E).trans ?_
    rw [if_pos rfl, n6]
  by_cases h5 : K = 5
  · have sp : stI E d r 101 [.ref 10, .int (E.2.1 ((nI i) + 1).toNatClampNeg), .int (E.2.1 ((nI i) + 2).toNatClampNeg), .int (E.2.1 ((nI i) + 3).toNatClampNeg)] 186 [.ref 101, .int (E.2.1 ((nI i) + 1).toNatClampNeg), .int (E.2.1 ((nI i) + 2).toNatClampNeg), .int (E.2.1 ((nI i) + 3).toNatClampNeg)] := st_set (d := d) s_E hI
    obtain ⟨v, r1, r2, c1, m1, i2⟩ := sp
    refine ⟨r2, i2, fun Q => ?_⟩
    rw [en, if_neg h0, if_neg h1, if_neg h2, if_neg h3, if_neg h4, if_pos h5]
    refine (c1 _).trans ?_
    refine (sg_L_law_432 (d := d + 70) s_E hx1 hx2 hx3).trans ?_
    refine (m1 _).trans ?_
    refine (sg_L_law_451 (d := d + 70) s_E).trans ?_
    rw [if_pos rfl, n6]
  by_cases h6 : K = 6
  · have sp : stI E d r 102 [.ref 10] 187 [.ref 101] := RO_st (d := d) hI (fun t X ok xo => by first | exact ro_comes s_E ok xo | exact ro_comes s_E ok | exact ro_comes s_E xo)
    obtain ⟨v, r1, r2, c1, m1, i2⟩ := sp
    refine ⟨r2, i2, fun Q => ?_⟩
    rw [en, if_neg h0, if_neg h1, if_neg h2, if_neg h3, if_neg h4, if_neg h5, if_pos h6]
    refine (c1 _).trans ?_
    refine (sg_L_law_460 (d := d + 70) s_E ).trans ?_
    refine (m1 _).trans ?_
    refine (sg_L_law_464 (d := d + 70) s_E).trans ?_
    rw [if_pos rfl, n6]
  by_cases h7 : K = 7
  · have sp : stI E d r 103 [.ref 10, .int (E.2.1 ((nI i) + 1).toNatClampNeg)] 196 [.ref 101, .int (E.2.1 ((nI i) + 1).toNatClampNeg)] := RO_st (d := d) hI (fun t X ok xo => by first | exact ro_given s_E ok xo | exact ro_given s_E ok | exact ro_given s_E xo)
    obtain ⟨v, r1, r2, c1, m1, i2⟩ := sp
    refine ⟨r2, i2, fun Q => ?_⟩
    rw [en, if_neg h0, if_neg h1, if_neg h2, if_neg h3, if_neg h4, if_neg h5, if_neg h6, if_pos h7]
    refine (c1 _).trans ?_
    refine (sg_L_law_478 (d := d + 70) s_E hx1).trans ?_
    refine (m1 _).trans ?_
    refine (sg_L_law_487 (d := d + 70) s_E).trans ?_
    rw [if_pos rfl, n6]
  by_cases h8 : K = 8
  · have sp : stI E d r 104 [.ref 10, .int (E.2.1 ((nI i) + 1).toNatClampNeg), .int (E.2.1 ((nI i) + 2).toNatClampNeg)] 198 [.ref 101, .int (E.2.1 ((nI i) + 1).toNatClampNeg), .int (E.2.1 ((nI i) + 2).toNatClampNeg)] := st_place (d := d) s_E hI
    obtain ⟨v, r1, r2, c1, m1, i2⟩ := sp
    refine ⟨r2, i2, fun Q => ?_⟩
    rw [en, if_neg h0, if_neg h1, if_neg h2, if_neg h3, if_neg h4, if_neg h5, if_neg h6, if_neg h7, if_pos h8]
    refine (c1 _).trans ?_
    refine (sg_L_law_506 (d := d + 70) s_E hx1 hx2).trans ?_
    refine (m1 _).trans ?_
    refine (sg_L_law_520 (d := d + 70) s_E).trans ?_
    rw [if_pos rfl, n6]
  by_cases h9 : K = 9
  · have sp : stI E d r 105 [.ref 10, .int (E.2.1 ((nI i) + 1).toNatClampNeg)] 199 [.ref 101, .int (E.2.1 ((nI i) + 1).toNatClampNeg)] := st_back (d := d) s_E hI
    obtain ⟨v, r1, r2, c1, m1, i2⟩ := sp
    refine ⟨r2, i2, fun Q => ?_⟩
    rw [en, if_neg h0, if_neg h1, if_neg h2, if_neg h3, if_neg h4, if_neg h5, if_neg h6, if_neg h7, if_neg h8, if_pos h9]
    refine (c1 _).trans ?_
    refine (sg_L_law_534 (d := d + 70) s_E hx1).trans ?_
    refine (m1 _).trans ?_
    refine (sg_L_law_543 (d := d + 70) s_E).trans ?_
    rw [if_pos rfl, n6]
  by_cases h10 : K = 10
  · have sp : stI E d r 106 [.ref 10, .int (E.2.1 ((nI i) + 1).toNatClampNeg)] 201 [.ref 101, .int (E.2.1 ((nI i) + 1).toNatClampNeg)] := RO_st (d := d) hI (fun t X ok xo => by first | exact ro_guess s_E ok xo | exact ro_guess s_E ok | exact ro_guess s_E xo)
    obtain ⟨v, r1, r2, c1, m1, i2⟩ := sp
    refine ⟨r2, i2, fun Q => ?_⟩
    rw [en, if_neg h0, if_neg h1, if_neg h2, if_neg h3, if_neg h4, if_neg h5, if_neg h6, if_neg h7, if_neg h8, if_neg h9, if_pos h10]
    refine (c1 _).trans ?_
    refine (sg_L_law_557 (d := d + 70) s_E hx1).trans ?_
    refine (m1 _).trans ?_
    refine (sg_L_law_566 (d := d + 70) s_E).trans ?_
    rw [if_pos rfl, n6]
  by_cases h11 : K = 11
  · have sp : stI E d r 107 [.ref 10, .int (E.2.1 ((nI i) + 1).toNatClampNeg)] 202 [.ref 101, .int (E.2.1 ((nI i) + 1).toNatClampNeg)] := RO_st (d := d) hI (fun t X ok xo => by first | exact ro_understood s_E ok xo | exact ro_understood s_E ok | exact ro_understood s_E xo)
    obtain ⟨v, r1, r2, c1, m1, i2⟩ := sp
    refine ⟨r2, i2, fun Q => ?_⟩
    rw [en, if_neg h0, if_neg h1, if_neg h2, if_neg h3, if_neg h4, if_neg h5, if_neg h6, if_neg h7, if_neg h8, if_neg h9, if_neg h10, if_pos h11]
    refine (c1 _).trans ?_
    refine (sg_L_law_580 (d := d + 70) s_E hx1).trans ?_
    refine (m1 _).trans ?_
    refine (sg_L_law_589 (d := d + 70) s_E).trans ?_
    rw [if_pos rfl, n6]
  by_cases h12 : K = 12
  · have sp : stI E d r 108 [.ref 10] 203 [.ref 101] := RO_st (d := d) hI (fun t X ok xo => by first | exact ro_flaw s_E ok xo | exact ro_flaw s_E ok | exact ro_flaw s_E xo)
    obtain ⟨v, r1, r2, c1, m1, i2⟩ := sp
    refine ⟨r2, i2, fun Q => ?_⟩
    rw [en, if_neg h0, if_neg h1, if_neg h2, if_neg h3, if_neg h4, if_neg h5, if_neg h6, if_neg h7, if_neg h8, if_neg h9, if_neg h10, if_neg h11, if_pos h12]
    refine (c1 _).trans ?_
    refine (sg_L_law_598 (d := d + 70) s_E ).trans ?_
    refine (m1 _).trans ?_
    refine (sg_L_law_602 (d := d + 70) s_E).trans ?_
    rw [if_pos rfl, n6]
  by_cases h13 : K = 13
  · have sp : stI E d r 109 [.ref 10] 204 [.ref 101] := st_turn (d := d) s_E hI
    obtain ⟨v, r1, r2, c1, m1, i2⟩ := sp
    refine ⟨r2, i2, fun Q => ?_⟩
    rw [en, if_neg h0, if_neg h1, if_neg h2, if_neg h3, if_neg h4, if_neg h5, if_neg h6, if_neg h7, if_neg h8, if_neg h9, if_neg h10, if_neg h11, if_neg h12, if_pos h13]
    refine (c1 _).trans ?_
    refine (sg_L_law_611 (d := d + 70) s_E ).trans ?_
    refine (m1 _).trans ?_
    refine (sg_L_law_615 (d := d + 70) s_E).trans ?_
    rw [if_pos rfl, n6]
  by_cases h14 : K = 14
  · have sp : stI E d r 110 [.ref 10, .long ((((E.2.1 ((nI i) + 1).toNatClampNeg).toInt64) <<< ((32 : Int32).toInt64 &&& 63)) ||| (((E.2.1 ((nI i) + 2).toNatClampNeg).toInt64) &&& 4294967295)), .int (E.2.1 ((nI i) + 3).toNatClampNeg)] 171 [.ref 101, .long ((((E.2.1 ((nI i) + 1).toNatClampNeg).toInt64) <<< ((32 : Int32).toInt64 &&& 63)) ||| (((E.2.1 ((nI i) + 2).toNatClampNeg).toInt64) &&& 4294967295)), .int (E.2.1 ((nI i) + 3).toNatClampNeg)] := st_feed (d := d) s_E hI
    obtain ⟨v, r1, r2, c1, m1, i2⟩ := sp
    refine ⟨r2, i2, fun Q => ?_⟩
    rw [en, if_neg h0, if_neg h1, if_neg h2, if_neg h3, if_neg h4, if_neg h5, if_neg h6, if_neg h7, if_neg h8, if_neg h9, if_neg h10, if_neg h11, if_neg h12, if_neg h13, if_pos h14]
    refine (c1 _).trans ?_
    refine (sg_L_law_649 (d := d + 70) s_E hx1 hx2 hx3).trans ?_
    refine (m1 _).trans ?_
    refine (sg_L_law_678 (d := d + 70) s_E).trans ?_
    rw [if_pos rfl, n6]
  by_cases h15 : K = 15
  · have sp : stI E d r 111 [.ref 10, .int (E.2.1 ((nI i) + 1).toNatClampNeg)] 172 [.ref 101, .int (E.2.1 ((nI i) + 1).toNatClampNeg)] := st_text (d := d) s_E hI
    obtain ⟨v, r1, r2, c1, m1, i2⟩ := sp
    refine ⟨r2, i2, fun Q => ?_⟩
    rw [en, if_neg h0, if_neg h1, if_neg h2, if_neg h3, if_neg h4, if_neg h5, if_neg h6, if_neg h7, if_neg h8, if_neg h9, if_neg h10, if_neg h11, if_neg h12, if_neg h13, if_neg h14, if_pos h15]
    refine (c1 _).trans ?_
    refine (sg_L_law_692 (d := d + 70) s_E hx1).trans ?_
    refine (m1 _).trans ?_
    refine (sg_L_law_701 (d := d + 70) s_E).trans ?_
    rw [if_pos rfl, n6]
  by_cases h16 : K = 16
  · have sp : stI E d r 112 [.ref 10, .int (E.2.1 ((nI i) + 1).toNatClampNeg), .int (E.2.1 ((nI i) + 2).toNatClampNeg), .int (E.2.1 ((nI i) + 3).toNatClampNeg), .int (E.2.1 ((nI i) + 4).toNatClampNeg)] 174 [.ref 101, .int (E.2.1 ((nI i) + 1).toNatClampNeg), .int (E.2.1 ((nI i) + 2).toNatClampNeg), .int (E.2.1 ((nI i) + 3).toNatClampNeg), .int (E.2.1 ((nI i) + 4).toNatClampNeg)] := RO_st (d := d) hI (fun t X ok xo => by first | exact ro_law s_E ok xo | exact ro_law s_E ok | exact ro_law s_E xo)
    obtain ⟨v, r1, r2, c1, m1, i2⟩ := sp
    refine ⟨r2, i2, fun Q => ?_⟩
    rw [en, if_neg h0, if_neg h1, if_neg h2, if_neg h3, if_neg h4, if_neg h5, if_neg h6, if_neg h7, if_neg h8, if_neg h9, if_neg h10, if_neg h11, if_neg h12, if_neg h13, if_neg h14, if_neg h15, if_pos h16]
    refine (c1 _).trans ?_
    refine (sg_L_law_730 (d := d + 70) s_E hx1 hx2 hx3 hx4).trans ?_
    refine (m1 _).trans ?_
    refine (sg_L_law_754 (d := d + 70) s_E).trans ?_
    rw [if_pos rfl, n6]
  by_cases h17 : K = 17
  · have sp : stI E d r 113 [.ref 10, .int (E.2.1 ((nI i) + 1).toNatClampNeg)] 208 [.ref 101, .int (E.2.1 ((nI i) + 1).toNatClampNeg)] := RO_st (d := d) hI (fun t X ok xo => by first | exact ro_least s_E ok xo | exact ro_least s_E ok | exact ro_least s_E xo)
    obtain ⟨v, r1, r2, c1, m1, i2⟩ := sp
    refine ⟨r2, i2, fun Q => ?_⟩
    rw [en, if_neg h0, if_neg h1, if_neg h2, if_neg h3, if_neg h4, if_neg h5, if_neg h6, if_neg h7, if_neg h8, if_neg h9, if_neg h10, if_neg h11, if_neg h12, if_neg h13, if_neg h14, if_neg h15, if_neg h16, if_pos h17]
    refine (c1 _).trans ?_
    refine (sg_L_law_768 (d := d + 70) s_E hx1).trans ?_
    refine (m1 _).trans ?_
    refine (sg_L_law_777 (d := d + 70) s_E).trans ?_
    rw [if_pos rfl, n6]
  by_cases h18 : K = 18
  · have sp : stI E d r 114 [.ref 10, .int (E.2.1 ((nI i) + 1).toNatClampNeg)] 209 [.ref 101, .int (E.2.1 ((nI i) + 1).toNatClampNeg)] := RO_st (d := d) hI (fun t X ok xo => by first | exact ro_fewest s_E ok xo | exact ro_fewest s_E ok | exact ro_fewest s_E xo)
    obtain ⟨v, r1, r2, c1, m1, i2⟩ := sp
    refine ⟨r2, i2, fun Q => ?_⟩
    rw [en, if_neg h0, if_neg h1, if_neg h2, if_neg h3, if_neg h4, if_neg h5, if_neg h6, if_neg h7, if_neg h8, if_neg h9, if_neg h10, if_neg h11, if_neg h12, if_neg h13, if_neg h14, if_neg h15, if_neg h16, if_neg h17, if_pos h18]
    refine (c1 _).trans ?_
    refine (sg_L_law_791 (d := d + 70) s_E hx1).trans ?_
    refine (m1 _).trans ?_
    refine (sg_L_law_800 (d := d + 70) s_E).trans ?_
    rw [if_pos rfl, n6]
  by_cases h19 : K = 19
  · have sp : stI E d r 115 [.ref 10, .int (E.2.1 ((nI i) + 1).toNatClampNeg)] 210 [.ref 101, .int (E.2.1 ((nI i) + 1).toNatClampNeg)] := RO_st (d := d) hI (fun t X ok xo => by first | exact ro_orders s_E ok xo | exact ro_orders s_E ok | exact ro_orders s_E xo)
    obtain ⟨v, r1, r2, c1, m1, i2⟩ := sp
    refine ⟨r2, i2, fun Q => ?_⟩
    rw [en, if_neg h0, if_neg h1, if_neg h2, if_neg h3, if_neg h4, if_neg h5, if_neg h6, if_neg h7, if_neg h8, if_neg h9, if_neg h10, if_neg h11, if_neg h12, if_neg h13, if_neg h14, if_neg h15, if_neg h16, if_neg h17, if_neg h18, if_pos h19]
    refine (c1 _).trans ?_
    refine (sg_L_law_814 (d := d + 70) s_E hx1).trans ?_
    refine (m1 _).trans ?_
    refine (sg_L_law_823 (d := d + 70) s_E).trans ?_
    rw [if_pos rfl, n6]
  by_cases h20 : K = 20
  · have sp : stI E d r 116 [.ref 10, .int (E.2.1 ((nI i) + 1).toNatClampNeg), .int (E.2.1 ((nI i) + 2).toNatClampNeg), .int (E.2.1 ((nI i) + 3).toNatClampNeg)] 215 [.ref 101, .int (E.2.1 ((nI i) + 1).toNatClampNeg), .int (E.2.1 ((nI i) + 2).toNatClampNeg), .int (E.2.1 ((nI i) + 3).toNatClampNeg)] := RO_st (d := d) hI (fun t X ok xo => by first | exact ro_mended s_E ok xo | exact ro_mended s_E ok | exact ro_mended s_E xo)
    obtain ⟨v, r1, r2, c1, m1, i2⟩ := sp
    refine ⟨r2, i2, fun Q => ?_⟩
    rw [en, if_neg h0, if_neg h1, if_neg h2, if_neg h3, if_neg h4, if_neg h5, if_neg h6, if_neg h7, if_neg h8, if_neg h9, if_neg h10, if_neg h11, if_neg h12, if_neg h13, if_neg h14, if_neg h15, if_neg h16, if_neg h17, if_neg h18, if_neg h19, if_pos h20]
    refine (c1 _).trans ?_
    refine (sg_L_law_847 (d := d + 70) s_E hx1 hx2 hx3).trans ?_
    refine (m1 _).trans ?_
    refine (sg_L_law_866 (d := d + 70) s_E).trans ?_
    rw [if_pos rfl, n6]
  by_cases h21 : K = 21
  · have sp : stI E d r 117 [.ref 10, .int (E.2.1 ((nI i) + 1).toNatClampNeg)] 217 [.ref 101, .int (E.2.1 ((nI i) + 1).toNatClampNeg)] := RO_st (d := d) hI (fun t X ok xo => by first | exact ro_thought s_E ok xo | exact ro_thought s_E ok | exact ro_thought s_E xo)
    obtain ⟨v, r1, r2, c1, m1, i2⟩ := sp
    refine ⟨r2, i2, fun Q => ?_⟩
    rw [en, if_neg h0, if_neg h1, if_neg h2, if_neg h3, if_neg h4, if_neg h5, if_neg h6, if_neg h7, if_neg h8, if_neg h9, if_neg h10, if_neg h11, if_neg h12, if_neg h13, if_neg h14, if_neg h15, if_neg h16, if_neg h17, if_neg h18, if_neg h19, if_neg h20, if_pos h21]
    refine (c1 _).trans ?_
    refine (sg_L_law_880 (d := d + 70) s_E hx1).trans ?_
    refine (m1 _).trans ?_
    refine (sg_L_law_889 (d := d + 70) s_E).trans ?_
    rw [if_pos rfl, n6]
  by_cases h22 : K = 22
  · have sp : stI E d r 118 [.ref 10] 218 [.ref 101] := RO_st (d := d) hI (fun t X ok xo => by first | exact ro_sure s_E ok xo | exact ro_sure s_E ok | exact ro_sure s_E xo)
    obtain ⟨v, r1, r2, c1, m1, i2⟩ := sp
    refine ⟨r2, i2, fun Q => ?_⟩
    rw [en, if_neg h0, if_neg h1, if_neg h2, if_neg h3, if_neg h4, if_neg h5, if_neg h6, if_neg h7, if_neg h8, if_neg h9, if_neg h10, if_neg h11, if_neg h12, if_neg h13, if_neg h14, if_neg h15, if_neg h16, if_neg h17, if_neg h18, if_neg h19, if_neg h20, if_neg h21, if_pos h22]
    refine (c1 _).trans ?_
    refine (sg_L_law_898 (d := d + 70) s_E ).trans ?_
    refine (m1 _).trans ?_
    refine (sg_L_law_902 (d := d + 70) s_E).trans ?_
    rw [if_pos rfl, n6]
  by_cases h23 : K = 23
  · have sp : stI E d r 119 [.ref 10, .int (E.2.1 ((nI i) + 1).toNatClampNeg), .int (E.2.1 ((nI i) + 2).toNatClampNeg)] 219 [.ref 101, .int (E.2.1 ((nI i) + 1).toNatClampNeg), .int (E.2.1 ((nI i) + 2).toNatClampNeg)] := RO_st (d := d) hI (fun t X ok xo => by first | exact ro_explained s_E ok xo | exact ro_explained s_E ok | exact ro_explained s_E xo)
    obtain ⟨v, r1, r2, c1, m1, i2⟩ := sp
    refine ⟨r2, i2, fun Q => ?_⟩
    rw [en, if_neg h0, if_neg h1, if_neg h2, if_neg h3, if_neg h4, if_neg h5, if_neg h6, if_neg h7, if_neg h8, if_neg h9, if_neg h10, if_neg h11, if_neg h12, if_neg h13, if_neg h14, if_neg h15, if_neg h16, if_neg h17, if_neg h18, if_neg h19, if_neg h20, if_neg h21, if_neg h22, if_pos h23]
    refine (c1 _).trans ?_
    refine (sg_L_law_921 (d := d + 70) s_E hx1 hx2).trans ?_
    refine (m1 _).trans ?_
    refine (sg_L_law_935 (d := d + 70) s_E).trans ?_
    rw [if_pos rfl, n6]
  by_cases h24 : K = 24
  · have sp : stI E d r 120 [.ref 10, .int (E.2.1 ((nI i) + 1).toNatClampNeg)] 221 [.ref 101, .int (E.2.1 ((nI i) + 1).toNatClampNeg)] := st_evenings (d := d) s_E hI
    obtain ⟨v, r1, r2, c1, m1, i2⟩ := sp
    refine ⟨r2, i2, fun Q => ?_⟩
    rw [en, if_neg h0, if_neg h1, if_neg h2, if_neg h3, if_neg h4, if_neg h5, if_neg h6, if_neg h7, if_neg h8, if_neg h9, if_neg h10, if_neg h11, if_neg h12, if_neg h13, if_neg h14, if_neg h15, if_neg h16, if_neg h17, if_neg h18, if_neg h19, if_neg h20, if_neg h21, if_neg h22, if_neg h23, if_pos h24]
    refine (c1 _).trans ?_
    refine (sg_L_law_949 (d := d + 70) s_E hx1).trans ?_
    refine (m1 _).trans ?_
    refine (sg_L_law_958 (d := d + 70) s_E).trans ?_
    rw [if_pos rfl, n6]
  by_cases h25 : K = 25
  · have sp : stI E d r 121 [.ref 10, .int (E.2.1 ((nI i) + 1).toNatClampNeg)] 223 [.ref 101, .int (E.2.1 ((nI i) + 1).toNatClampNeg)] := st_loose (d := d) s_E hI
    obtain ⟨v, r1, r2, c1, m1, i2⟩ := sp
    refine ⟨r2, i2, fun Q => ?_⟩
    rw [en, if_neg h0, if_neg h1, if_neg h2, if_neg h3, if_neg h4, if_neg h5, if_neg h6, if_neg h7, if_neg h8, if_neg h9, if_neg h10, if_neg h11, if_neg h12, if_neg h13, if_neg h14, if_neg h15, if_neg h16, if_neg h17, if_neg h18, if_neg h19, if_neg h20, if_neg h21, if_neg h22, if_neg h23, if_neg h24, if_pos h25]
    refine (c1 _).trans ?_
    refine (sg_L_law_972 (d := d + 70) s_E hx1).trans ?_
    refine (m1 _).trans ?_
    refine (sg_L_law_981 (d := d + 70) s_E).trans ?_
    rw [if_pos rfl, n6]
  by_cases h26 : K = 26
  · have sp : stI E d r 122 [.ref 10, .int (E.2.1 ((nI i) + 1).toNatClampNeg)] 224 [.ref 101, .int (E.2.1 ((nI i) + 1).toNatClampNeg)] := st_seed (d := d) s_E hI
    obtain ⟨v, r1, r2, c1, m1, i2⟩ := sp
    refine ⟨r2, i2, fun Q => ?_⟩
    rw [en, if_neg h0, if_neg h1, if_neg h2, if_neg h3, if_neg h4, if_neg h5, if_neg h6, if_neg h7, if_neg h8, if_neg h9, if_neg h10, if_neg h11, if_neg h12, if_neg h13, if_neg h14, if_neg h15, if_neg h16, if_neg h17, if_neg h18, if_neg h19, if_neg h20, if_neg h21, if_neg h22, if_neg h23, if_neg h24, if_neg h25, if_pos h26]
    refine (c1 _).trans ?_
    refine (sg_L_law_995 (d := d + 70) s_E hx1).trans ?_
    refine (m1 _).trans ?_
    refine (sg_L_law_1004 (d := d + 70) s_E).trans ?_
    rw [if_pos rfl, n6]
  by_cases h27 : K = 27
  · have sp : stI E d r 123 [.ref 10, .int (E.2.1 ((nI i) + 1).toNatClampNeg), .int (E.2.1 ((nI i) + 2).toNatClampNeg), .int (E.2.1 ((nI i) + 3).toNatClampNeg)] 231 [.ref 101, .int (E.2.1 ((nI i) + 1).toNatClampNeg), .int (E.2.1 ((nI i) + 2).toNatClampNeg), .int (E.2.1 ((nI i) + 3).toNatClampNeg)] := st_voice (d := d) s_E hI
    obtain ⟨v, r1, r2, c1, m1, i2⟩ := sp
    refine ⟨r2, i2, fun Q => ?_⟩
    rw [en, if_neg h0, if_neg h1, if_neg h2, if_neg h3, if_neg h4, if_neg h5, if_neg h6, if_neg h7, if_neg h8, if_neg h9, if_neg h10, if_neg h11, if_neg h12, if_neg h13, if_neg h14, if_neg h15, if_neg h16, if_neg h17, if_neg h18, if_neg h19, if_neg h20, if_neg h21, if_neg h22, if_neg h23, if_neg h24, if_neg h25, if_neg h26, if_pos h27]
    refine (c1 _).trans ?_
    refine (sg_L_law_1028 (d := d + 70) s_E hx1 hx2 hx3).trans ?_
    refine (m1 _).trans ?_
    refine (sg_L_law_1047 (d := d + 70) s_E).trans ?_
    rw [if_pos rfl, n6]
  by_cases h28 : K = 28
  · have sp : stI E d r 124 [.ref 10, .int (E.2.1 ((nI i) + 1).toNatClampNeg)] 232 [.ref 101, .int (E.2.1 ((nI i) + 1).toNatClampNeg)] := st_trace (d := d) s_E hI
    obtain ⟨v, r1, r2, c1, m1, i2⟩ := sp
    refine ⟨r2, i2, fun Q => ?_⟩
    rw [en, if_neg h0, if_neg h1, if_neg h2, if_neg h3, if_neg h4, if_neg h5, if_neg h6, if_neg h7, if_neg h8, if_neg h9, if_neg h10, if_neg h11, if_neg h12, if_neg h13, if_neg h14, if_neg h15, if_neg h16, if_neg h17, if_neg h18, if_neg h19, if_neg h20, if_neg h21, if_neg h22, if_neg h23, if_neg h24, if_neg h25, if_neg h26, if_neg h27, if_pos h28]
    refine (c1 _).trans ?_
    refine (sg_L_law_1061 (d := d + 70) s_E hx1).trans ?_
    refine (m1 _).trans ?_
    refine (sg_L_law_1070 (d := d + 70) s_E).trans ?_
    rw [if_pos rfl, n6]
  by_cases h29 : K = 29
  · have sp : stI E d r 125 [.ref 10, .int (E.2.1 ((nI i) + 1).toNatClampNeg), .int (E.2.1 ((nI i) + 2).toNatClampNeg), .int (E.2.1 ((nI i) + 3).toNatClampNeg)] 234 [.ref 101, .int (E.2.1 ((nI i) + 1).toNatClampNeg), .int (E.2.1 ((nI i) + 2).toNatClampNeg), .int (E.2.1 ((nI i) + 3).toNatClampNeg)] := st_sheet (d := d) s_E hI
    obtain ⟨v, r1, r2, c1, m1, i2⟩ := sp
    refine ⟨r2, i2, fun Q => ?_⟩
    rw [en, if_neg h0, if_neg h1, if_neg h2, if_neg h3, if_neg h4, if_neg h5, if_neg h6, if_neg h7, if_neg h8, if_neg h9, if_neg h10, if_neg h11, if_neg h12, if_neg h13, if_neg h14, if_neg h15, if_neg h16, if_neg h17, if_neg h18, if_neg h19, if_neg h20, if_neg h21, if_neg h22, if_neg h23, if_neg h24, if_neg h25, if_neg h26, if_neg h27, if_neg h28, if_pos h29]
    refine (c1 _).trans ?_
    refine (sg_L_law_1094 (d := d + 70) s_E hx1 hx2 hx3).trans ?_
    refine (m1 _).trans ?_
    refine (sg_L_law_1113 (d := d + 70) s_E).trans ?_
    rw [if_pos rfl, n6]
  by_cases h30 : K = 30
  · have sp : stI E d r 126 [.ref 10, .int (E.2.1 ((nI i) + 1).toNatClampNeg), .int (E.2.1 ((nI i) + 2).toNatClampNeg), .int (E.2.1 ((nI i) + 3).toNatClampNeg)] 235 [.ref 101, .int (E.2.1 ((nI i) + 1).toNatClampNeg), .int (E.2.1 ((nI i) + 2).toNatClampNeg), .int (E.2.1 ((nI i) + 3).toNatClampNeg)] := st_put (d := d) s_E hI
    obtain ⟨v, r1, r2, c1, m1, i2⟩ := sp
    refine ⟨r2, i2, fun Q => ?_⟩
    rw [en, if_neg h0, if_neg h1, if_neg h2, if_neg h3, if_neg h4, if_neg h5, if_neg h6, if_neg h7, if_neg h8, if_neg h9, if_neg h10, if_neg h11, if_neg h12, if_neg h13, if_neg h14, if_neg h15, if_neg h16, if_neg h17, if_neg h18, if_neg h19, if_neg h20, if_neg h21, if_neg h22, if_neg h23, if_neg h24, if_neg h25, if_neg h26, if_neg h27, if_neg h28, if_neg h29, if_pos h30]
    refine (c1 _).trans ?_
    refine (sg_L_law_1137 (d := d + 70) s_E hx1 hx2 hx3).trans ?_
    refine (m1 _).trans ?_
    refine (sg_L_law_1156 (d := d + 70) s_E).trans ?_
    rw [if_pos rfl, n6]
  by_cases h31 : K = 31
  · have sp : stI E d r 127 [.ref 10, .int (E.2.1 ((nI i) + 1).toNatClampNeg), .int (E.2.1 ((nI i) + 2).toNatClampNeg), .int (E.2.1 ((nI i) + 3).toNatClampNeg), .int (E.2.1 ((nI i) + 4).toNatClampNeg), .int (E.2.1 ((nI i) + 5).toNatClampNeg)] 236 [.ref 101, .int (E.2.1 ((nI i) + 1).toNatClampNeg), .int (E.2.1 ((nI i) + 2).toNatClampNeg), .int (E.2.1 ((nI i) + 3).toNatClampNeg), .int (E.2.1 ((nI i) + 4).toNatClampNeg), .int (E.2.1 ((nI i) + 5).toNatClampNeg)] := st_move (d := d) s_E hI
    obtain ⟨v, r1, r2, c1, m1, i2⟩ := sp
    refine ⟨r2, i2, fun Q => ?_⟩
    rw [en, if_neg h0, if_neg h1, if_neg h2, if_neg h3, if_neg h4, if_neg h5, if_neg h6, if_neg h7, if_neg h8, if_neg h9, if_neg h10, if_neg h11, if_neg h12, if_neg h13, if_neg h14, if_neg h15, if_neg h16, if_neg h17, if_neg h18, if_neg h19, if_neg h20, if_neg h21, if_neg h22, if_neg h23, if_neg h24, if_neg h25, if_neg h26, if_neg h27, if_neg h28, if_neg h29, if_neg h30, if_pos h31]
    refine (c1 _).trans ?_
    refine (sg_L_law_1190 (d := d + 70) s_E hx1 hx2 hx3 hx4 hx5).trans ?_
    refine (m1 _).trans ?_
    refine (sg_L_law_1219 (d := d + 70) s_E).trans ?_
    rw [if_pos rfl, n6]
  by_cases h32 : K = 32
  · have sp : stI E d r 128 [.ref 10, .int (E.2.1 ((nI i) + 1).toNatClampNeg)] 238 [.ref 101, .int (E.2.1 ((nI i) + 1).toNatClampNeg)] := st_order (d := d) s_E hI
    obtain ⟨v, r1, r2, c1, m1, i2⟩ := sp
    refine ⟨r2, i2, fun Q => ?_⟩
    rw [en, if_neg h0, if_neg h1, if_neg h2, if_neg h3, if_neg h4, if_neg h5, if_neg h6, if_neg h7, if_neg h8, if_neg h9, if_neg h10, if_neg h11, if_neg h12, if_neg h13, if_neg h14, if_neg h15, if_neg h16, if_neg h17, if_neg h18, if_neg h19, if_neg h20, if_neg h21, if_neg h22, if_neg h23, if_neg h24, if_neg h25, if_neg h26, if_neg h27, if_neg h28, if_neg h29, if_neg h30, if_neg h31, if_pos h32]
    refine (c1 _).trans ?_
    refine (sg_L_law_1233 (d := d + 70) s_E hx1).trans ?_
    refine (m1 _).trans ?_
    refine (sg_L_law_1242 (d := d + 70) s_E).trans ?_
    rw [if_pos rfl, n6]
  by_cases h33 : K = 33
  · have sp : stI E d r 129 [.ref 10, .int (E.2.1 ((nI i) + 1).toNatClampNeg)] 239 [.ref 101, .int (E.2.1 ((nI i) + 1).toNatClampNeg)] := st_judge (d := d) s_E hI
    obtain ⟨v, r1, r2, c1, m1, i2⟩ := sp
    refine ⟨r2, i2, fun Q => ?_⟩
    rw [en, if_neg h0, if_neg h1, if_neg h2, if_neg h3, if_neg h4, if_neg h5, if_neg h6, if_neg h7, if_neg h8, if_neg h9, if_neg h10, if_neg h11, if_neg h12, if_neg h13, if_neg h14, if_neg h15, if_neg h16, if_neg h17, if_neg h18, if_neg h19, if_neg h20, if_neg h21, if_neg h22, if_neg h23, if_neg h24, if_neg h25, if_neg h26, if_neg h27, if_neg h28, if_neg h29, if_neg h30, if_neg h31, if_neg h32, if_pos h33]
    refine (c1 _).trans ?_
    refine (sg_L_law_1256 (d := d + 70) s_E hx1).trans ?_
    refine (m1 _).trans ?_
    refine (sg_L_law_1265 (d := d + 70) s_E).trans ?_
    rw [if_pos rfl, n6]
  by_cases h34 : K = 34
  · have sp : stI E d r 130 [.ref 10] 240 [.ref 101] := st_image (d := d) s_E hI
    obtain ⟨v, r1, r2, c1, m1, i2⟩ := sp
    refine ⟨r2, i2, fun Q => ?_⟩
    rw [en, if_neg h0, if_neg h1, if_neg h2, if_neg h3, if_neg h4, if_neg h5, if_neg h6, if_neg h7, if_neg h8, if_neg h9, if_neg h10, if_neg h11, if_neg h12, if_neg h13, if_neg h14, if_neg h15, if_neg h16, if_neg h17, if_neg h18, if_neg h19, if_neg h20, if_neg h21, if_neg h22, if_neg h23, if_neg h24, if_neg h25, if_neg h26, if_neg h27, if_neg h28, if_neg h29, if_neg h30, if_neg h31, if_neg h32, if_neg h33, if_pos h34]
    refine (c1 _).trans ?_
    refine (sg_L_law_1274 (d := d + 70) s_E ).trans ?_
    refine (m1 _).trans ?_
    refine (sg_L_law_1278 (d := d + 70) s_E).trans ?_
    rw [if_pos rfl, n6]
  by_cases h35 : K = 35
  · have sp : stI E d r 131 [.ref 10] 241 [.ref 101] := st_restore (d := d) s_E hI
    obtain ⟨v, r1, r2, c1, m1, i2⟩ := sp
    refine ⟨r2, i2, fun Q => ?_⟩
    rw [en, if_neg h0, if_neg h1, if_neg h2, if_neg h3, if_neg h4, if_neg h5, if_neg h6, if_neg h7, if_neg h8, if_neg h9, if_neg h10, if_neg h11, if_neg h12, if_neg h13, if_neg h14, if_neg h15, if_neg h16, if_neg h17, if_neg h18, if_neg h19, if_neg h20, if_neg h21, if_neg h22, if_neg h23, if_neg h24, if_neg h25, if_neg h26, if_neg h27, if_neg h28, if_neg h29, if_neg h30, if_neg h31, if_neg h32, if_neg h33, if_neg h34, if_pos h35]
    refine (c1 _).trans ?_
    refine (sg_L_law_1287 (d := d + 70) s_E ).trans ?_
    refine (m1 _).trans ?_
    refine (sg_L_law_1291 (d := d + 70) s_E).trans ?_
    rw [if_pos rfl, n6]
  by_cases h36 : K = 36
  · have sp : stI E d r 132 [.ref 10, .int (E.2.1 ((nI i) + 1).toNatClampNeg)] 242 [.ref 101, .int (E.2.1 ((nI i) + 1).toNatClampNeg)] := st_tell (d := d) s_E hI
    obtain ⟨v, r1, r2, c1, m1, i2⟩ := sp
    refine ⟨r2, i2, fun Q => ?_⟩
    rw [en, if_neg h0, if_neg h1, if_neg h2, if_neg h3, if_neg h4, if_neg h5, if_neg h6, if_neg h7, if_neg h8, if_neg h9, if_neg h10, if_neg h11, if_neg h12, if_neg h13, if_neg h14, if_neg h15, if_neg h16, if_neg h17, if_neg h18, if_neg h19, if_neg h20, if_neg h21, if_neg h22, if_neg h23, if_neg h24, if_neg h25, if_neg h26, if_neg h27, if_neg h28, if_neg h29, if_neg h30, if_neg h31, if_neg h32, if_neg h33, if_neg h34, if_neg h35, if_pos h36]
    refine (c1 _).trans ?_
    refine (sg_L_law_1305 (d := d + 70) s_E hx1).trans ?_
    refine (m1 _).trans ?_
    refine (sg_L_law_1314 (d := d + 70) s_E).trans ?_
    rw [if_pos rfl, n6]
  by_cases h37 : K = 37
  · have sp : stI E d r 133 [.ref 10] 243 [.ref 101] := st_check (d := d) s_E hI
    obtain ⟨v, r1, r2, c1, m1, i2⟩ := sp
    refine ⟨r2, i2, fun Q => ?_⟩
    rw [en, if_neg h0, if_neg h1, if_neg h2, if_neg h3, if_neg h4, if_neg h5, if_neg h6, if_neg h7, if_neg h8, if_neg h9, if_neg h10, if_neg h11, if_neg h12, if_neg h13, if_neg h14, if_neg h15, if_neg h16, if_neg h17, if_neg h18, if_neg h19, if_neg h20, if_neg h21, if_neg h22, if_neg h23, if_neg h24, if_neg h25, if_neg h26, if_neg h27, if_neg h28, if_neg h29, if_neg h30, if_neg h31, if_neg h32, if_neg h33, if_neg h34, if_neg h35, if_neg h36, if_pos h37]
    refine (c1 _).trans ?_
    refine (sg_L_law_1323 (d := d + 70) s_E ).trans ?_
    refine (m1 _).trans ?_
    refine (sg_L_law_1327 (d := d + 70) s_E).trans ?_
    rw [if_pos rfl, n6]
  by_cases h38 : K = 38
  · have sp : stI E d r 134 [.ref 10, .int (E.2.1 ((nI i) + 1).toNatClampNeg)] 245 [.ref 101, .int (E.2.1 ((nI i) + 1).toNatClampNeg)] := st_count (d := d) s_E hI
    obtain ⟨v, r1, r2, c1, m1, i2⟩ := sp
    refine ⟨r2, i2, fun Q => ?_⟩
    rw [en, if_neg h0, if_neg h1, if_neg h2, if_neg h3, if_neg h4, if_neg h5, if_neg h6, if_neg h7, if_neg h8, if_neg h9, if_neg h10, if_neg h11, if_neg h12, if_neg h13, if_neg h14, if_neg h15, if_neg h16, if_neg h17, if_neg h18, if_neg h19, if_neg h20, if_neg h21, if_neg h22, if_neg h23, if_neg h24, if_neg h25, if_neg h26, if_neg h27, if_neg h28, if_neg h29, if_neg h30, if_neg h31, if_neg h32, if_neg h33, if_neg h34, if_neg h35, if_neg h36, if_neg h37, if_pos h38]
    refine (c1 _).trans ?_
    refine (sg_L_law_1341 (d := d + 70) s_E hx1).trans ?_
    refine (m1 _).trans ?_
    refine (sg_L_law_1350 (d := d + 70) s_E).trans ?_
    rw [if_pos rfl, n6]
  by_cases h39 : K = 39
  · have sp : stI E d r 135 [.ref 10, .int (E.2.1 ((nI i) + 1).toNatClampNeg)] 246 [.ref 101, .int (E.2.1 ((nI i) + 1).toNatClampNeg)] := st_told (d := d) s_E hI
    obtain ⟨v, r1, r2, c1, m1, i2⟩ := sp
    refine ⟨r2, i2, fun Q => ?_⟩
    rw [en, if_neg h0, if_neg h1, if_neg h2, if_neg h3, if_neg h4, if_neg h5, if_neg h6, if_neg h7, if_neg h8, if_neg h9, if_neg h10, if_neg h11, if_neg h12, if_neg h13, if_neg h14, if_neg h15, if_neg h16, if_neg h17, if_neg h18, if_neg h19, if_neg h20, if_neg h21, if_neg h22, if_neg h23, if_neg h24, if_neg h25, if_neg h26, if_neg h27, if_neg h28, if_neg h29, if_neg h30, if_neg h31, if_neg h32, if_neg h33, if_neg h34, if_neg h35, if_neg h36, if_neg h37, if_neg h38, if_pos h39]
    refine (c1 _).trans ?_
    refine (sg_L_law_1364 (d := d + 70) s_E hx1).trans ?_
    refine (m1 _).trans ?_
    refine (sg_L_law_1373 (d := d + 70) s_E).trans ?_
    rw [if_pos rfl, n6]
  refine ⟨r, hI, fun Q => ?_⟩
  rw [en, if_neg h0, if_neg h1, if_neg h2, if_neg h3, if_neg h4, if_neg h5, if_neg h6, if_neg h7, if_neg h8, if_neg h9, if_neg h10, if_neg h11, if_neg h12, if_neg h13, if_neg h14, if_neg h15, if_neg h16, if_neg h17, if_neg h18, if_neg h19, if_neg h20, if_neg h21, if_neg h22, if_neg h23, if_neg h24, if_neg h25, if_neg h26, if_neg h27, if_neg h28, if_neg h29, if_neg h30, if_neg h31, if_neg h32, if_neg h33, if_neg h34, if_neg h35, if_neg h36, if_neg h37, if_neg h38, if_neg h39, n6]
end LWR
