/-! JUDGE -/
section JDG
variable {d : Nat} {E : pEv} {r r' r1 r2 rm rm' : Nat → Nat → Int32} {t t' : Th} {X : Tx} {Q : Option Value → pH → Prop}
def jdG (n z h : Nat) (q : Nat → Int32) : Nat → Nat → Int32
  | 0, i => if z = n then -1 else nI i
  | m + 1, i => if q i = (nI h >>> (nI i &&& 31)) &&& 1 then jdG n z h q m (i + 1) else nI i
theorem st_judge (s_E : oE E) (hI : Inv r) {x : Int32} : stI E d r 129 [.ref 10, .int x] 239 [.ref 101, .int x] := by
  have hh := hI.2.2.2.2.1
  obtain ⟨t, X, ok, xo, hC, hX, hM, hXM, hy⟩ := hI.1
  have hn := ok.n
  have gM : f_X10_isSheet x = f_X9_within x 0 3 := in_l (a := 0) (b := 3)
  have pC : ∀ Q, wX (d + 70) 129 [.ref 10, .int x] (mkH E r) Q = wG (d + 69) 129 (5, [.ref 10, .int x, .retAddr 0, .retAddr 0, .retAddr 0, .retAddr 0, .retAddr 0], [.int (f_X9_errorOfSheet r x)], mkH E r) Q := fun Q => (en_X9_judge (d := d + 69) s_E).trans (x_X9_errorOfSheet (d := d + 66) s_E)
  have pM : ∀ ra Q, wX (d + 70) 239 [.ref 101, .int x] (mkH E ra) Q = wG (d + 69) 239 (4, [.ref 101, .int x, .retAddr 0, .retAddr 0], [.int (f_X9_within x 0 3)], mkH E ra) Q := fun ra Q => by
    refine (en_X10_judge (d := d + 69) s_E).trans ?_
    refine (x_X10_isSheet (d := d + 67) s_E).trans ?_
    rw [gM]
    rfl
  rcases eSh hh x with ⟨h, e⟩ | ⟨s, z, bi, hs, rfl, h, hsh, q⟩
  · refine st_e hI (k := 1) (by decide) (fun Q => ?_) (fun Q => ?_)
    · rw [pC, e]
      refine (sg_X9_judge_5 (d := d + 69) s_E).trans ?_
      rw [if_neg erN.1]
      refine (x_wr (d := d + 67) s_E (by decide)).trans ?_
      exact sg_X9_judge_15 (d := d + 69) s_E
    · rw [pM, h]
      refine (sg_X10_judge_4 (d := d + 69) s_E (fun q => absurd rfl q)).trans ?_
      rw [if_pos rfl]
      refine (x_fin (d := d + 68) (k := 1) s_E (by decide)).trans ?_
      exact sg_X10_judge_12 (d := d + 69) s_E
  · obtain ⟨z1, z2, z3, z4, z5, z6, z7⟩ := id hsh
    have xs : ¬ nI s < 0 ∧ (nI s).toNatClampNeg < 4 := ix_n hs (by decide)
    have cs : (nI s).toNatClampNeg = s := nI_clamp (by omega)
    rcases q with ⟨b0, e⟩ | ⟨b0, e⟩
    · refine st_e hI (k := 2) (by decide) (fun Q => ?_) (fun Q => ?_)
      · rw [pC, e]
        refine (sg_X9_judge_5 (d := d + 69) s_E).trans ?_
        rw [if_neg erN.2]
        refine (x_wr (d := d + 67) s_E (by decide)).trans ?_
        exact sg_X9_judge_15 (d := d + 69) s_E
      · rw [pM, h]
        refine (sg_X10_judge_4 (d := d + 69) s_E (fun _ => xs)).trans ?_
        have e112 : eC r 2 112 s = 0 := (uI_o (by omega)).trans (z4.trans ((bi_t bi (by omega)).1.mpr b0))
        rw [if_neg (by decide), cs, e112, if_pos rfl]
        refine (x_fin (d := d + 68) (k := 2) s_E (by decide)).trans ?_
        exact sg_X10_judge_27 (d := d + 69) s_E
    · have n0 : ¬ nI bi = 0 := fun w => b0 ((bi_t bi (by omega)).1.mp w)
      have hr : oRow (89 + 3 * s) 40 := by
        have := (oSh_at (x := nI s)).2.2.2
        rwa [sAt s hs, show 88 + 3 * s + 1 = 89 + 3 * s by omega] at this
      have hk : rK r (89 + 3 * s) 40 z := ⟨z5, z1, by decide⟩
      obtain ⟨B, hB, eB⟩ : ∃ B, (if nI t.n < nI z then nI t.n else nI z) = nI B ∧ (B = if t.n < z then t.n else z) := by
        by_cases q : t.n < z
        · exact ⟨t.n, by rw [if_pos (nI_lt q (by omega))], by rw [if_pos q]⟩
        · exact ⟨z, by rw [if_neg (nI_nlt (by omega) (by omega))], by rw [if_neg q]⟩
      have hBz : B ≤ z ∧ B ≤ t.n ∧ (B = z ∨ B = t.n) := by
        by_cases q : t.n < z
        · rw [if_pos q] at eB; omega
        · rw [if_neg q] at eB; omega
      have lpC : ∀ m i, i + m = B → ∀ Q, wG (d + 69) 129 (53, [.ref 10, .int (nI s), .int 0, .ref (89 + 3 * s), .int (nI (hp t)), .int (nI B), .int (nI i)], [], mkH E r) Q = Q (some (.int (jdG t.n z (hp t) (r (90 + 3 * s)) m i))) (mkH E r) := by
        intro m
        induction m with
        | zero =>
          intro i hi Q
          obtain rfl : i = B := by omega
          refine (sg_X9_judge_53 (d := d + 69) s_E hr).trans ?_
          rw [if_neg (nI_nlt (Nat.le_refl _) (by omega)), z5, hC.n]
          unfold jdG
          by_cases q : z = t.n
          · rw [if_pos (congrArg nI q), if_pos q]
          · rw [if_neg (fun w => q ((nI_eq (by omega) (by omega)).mp w)), if_neg q]
        | succ m ih =>
          intro i hi Q
          refine (sg_X9_judge_53 (d := d + 69) s_E hr).trans ?_
          rw [if_pos (nI_lt (by omega) (by omega))]
          refine (x_X4_at (d := d + 68) (c_h0 := 40) s_E hr).trans ?_
          rw [at_in hk (by omega), show 89 + 3 * s + 1 = 90 + 3 * s by omega]
          refine (sg_X9_judge_66 (d := d + 69) s_E hr).trans ?_
          unfold jdG
          by_cases q : r (90 + 3 * s) i = (nI (hp t) >>> (nI i &&& 31)) &&& 1
          · rw [if_pos q, if_pos q, ← nI_succ]
            exact ih (i + 1) (by omega) Q
          · rw [if_neg q, if_neg q]
      have lpM : ∀ m i, i + m = B → ∀ Q, wG (d + 69) 239 (35, [.ref 101, .int (nI s), .int (nI (hp t)), .int (nI i)], [], mkH E r) Q = Q (some (.int (jdG t.n z (hp t) (r (90 + 3 * s)) m i))) (mkH E r) := by
        intro m
        induction m with
        | zero =>
          intro i hi Q
          obtain rfl : i = B := by omega
          have x40 := ix40 s hs i
          refine (sg_X10_judge_35 (d := d + 69) s_E xs (fun q1 q2 => ?_) (fun _ _ _ => xs) (fun _ _ => xs) (fun _ => xs)).trans ?_
          · rw [cs, z6] at q1
            rw [hM.n] at q2
            rcases hBz.2.2 with q | q
            · rw [q] at q1; exact absurd q1 (nI_nlt (Nat.le_refl _) (by omega))
            · rw [q] at q2; exact absurd q2 (nI_nlt (Nat.le_refl _) (by omega))
          · rw [cs, z6, hM.n]
            unfold jdG
            have tail : (if nI i = nI z then (if nI i = nI t.n then Q (some (.int (-1))) (mkH E r) else Q (some (.int (nI i))) (mkH E r)) else Q (some (.int (nI i))) (mkH E r)) = Q (some (.int (if z = t.n then -1 else nI i))) (mkH E r) := by
              by_cases q : z = t.n
              · have : i = z := by omega
                rw [if_pos (congrArg nI this), if_pos (congrArg nI (this.trans q)), if_pos q]
              · rw [if_neg q]
                by_cases q2 : nI i = nI z
                · rw [if_pos q2]
                  have : i = z := (nI_eq (by omega) (by omega)).mp q2
                  rw [if_neg (fun w => q (by have := (nI_eq (by omega) (by omega)).mp w; omega))]
                · rw [if_neg q2]
            by_cases q1 : nI i < nI z
            · rw [if_pos q1]
              have q2 : ¬ nI i < nI t.n := fun w => by
                rcases hBz.2.2 with q | q
                · rw [q] at q1; exact absurd q1 (nI_nlt (Nat.le_refl _) (by omega))
                · rw [q] at w; exact absurd w (nI_nlt (Nat.le_refl _) (by omega))
              rw [if_neg q2]
              exact tail
            · rw [if_neg q1]
              exact tail
        | succ m ih =>
          intro i hi Q
          obtain ⟨x1, x2⟩ := ix40 s hs i (by omega)
          refine (sg_X10_judge_35 (d := d + 69) s_E xs (fun _ _ => ⟨x2, by omega⟩) (fun _ _ _ => xs) (fun _ _ => xs) (fun _ => xs)).trans ?_
          rw [cs, z6, hM.n, if_pos (nI_lt (by omega) (by omega)), if_pos (nI_lt (by omega) (by omega)), x1, ← z7 i (by omega)]
          unfold jdG
          by_cases q : r (90 + 3 * s) i = (nI (hp t) >>> (nI i &&& 31)) &&& 1
          · rw [if_pos q, if_pos q, ← nI_succ]
            exact ih (i + 1) (by omega) Q
          · rw [if_neg q, if_neg q]
            have a1 : ¬ nI i = nI z := fun w => by have := (nI_eq (by omega) (by omega)).mp w; omega
            rw [if_neg a1]
      refine ⟨jdG t.n z (hp t) (r (90 + 3 * s)) B 0, r, r, fun Q => ?_, fun Q => ?_, hI⟩
      · rw [pC, e]
        refine (sg_X9_judge_5 (d := d + 69) s_E).trans ?_
        rw [if_pos rfl]
        refine (x_X9_sheetAt (d := d + 67) s_E).trans ?_
        refine (sg_X9_judge_21 (d := d + 69) s_E oSh_at).trans ?_
        refine (x_X2_happening (d := d + 65) s_E ok hC).trans ?_
        rw [sAt s hs, show 88 + 3 * s + 1 = 89 + 3 * s by omega]
        refine (sg_X9_judge_32 (d := d + 69) s_E hr).trans ?_
        rw [hC.n, z5, hB]
        exact lpC B 0 (by omega) Q
      · rw [pM, h]
        refine (sg_X10_judge_4 (d := d + 69) s_E (fun _ => xs)).trans ?_
        rw [if_neg (by decide), cs, z4, if_neg n0]
        refine (x_all (d := d + 65) s_E ok hM).trans ?_
        refine (sg_X10_judge_32 (d := d + 69) s_E).trans ?_
        exact lpM B 0 (by omega) Q
end JDG
