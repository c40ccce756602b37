section FL
variable {d : Nat} {E : pEv} {ro : Nat → Nat → Int32} {Q : Option Value → pH → Prop} {t : Th}
/-- the first place whose scene is broken; less than 0: none -/
def fb (t : Th) : Int32 := itx (fun i (_ : Unit) => br t (hp t) (t.o i)) (fun i _ => nI i) (fun _ a => a) (fun _ => -1) t.n 0 ()
theorem x_X2_firstBroken (s_E : oE E) (ok : tOK t) (hC : tC t ro) : wX (d + 6) 30 [.ref 11] (mkH E ro) Q = Q (some (.int (fb t))) (mkH E ro) := by
  have hn := ok.n
  refine (en_X2_firstBroken (d := d + 5) s_E).trans ?_
  refine (x_X2_happening (d := d + 1) s_E ok hC).trans ?_
  refine (sg_X2_firstBroken_4 (d := d + 5) s_E).trans ?_
  exact loop_itx (α := Unit) (P := fun i _ => wG (d + 5) 30 (7, [.ref 11, .int (nI (hp t)), .int (nI i)], [], mkH E ro) Q) (R := fun r => Q (some (.int r)) (mkH E ro)) (I := fun _ _ => True) (n := t.n)
    (fun i a hi _ => by
      have ho := ok.o i hi
      show wG (d + 5) 30 (7, [.ref 11, .int (nI (hp t)), .int (nI i)], [], mkH E ro) Q = _
      rw [sg_X2_firstBroken_7 s_E, hC.n, if_pos (nI_lt hi (by omega))]
      refine (x_X4_at (d := d + 4) (c_h0 := 7) s_E (oR rfl)).trans ?_
      rw [at_in (rK32 ok hC) hi, hC.o i hi]
      refine (sg_X2_firstBroken_24 (d := d + 5) s_E).trans ?_
      refine (x_X2_isBroken s_E ok hC ho (hp_lt ok)).trans ?_
      refine (sg_X2_firstBroken_28 (d := d + 5) s_E).trans ?_
      rw [← nI_succ]
      by_cases h : br t (hp t) (t.o i) = true
      · rw [h]; simp
      · simp only [Bool.not_eq_true] at h
        rw [h]; simp)
    (fun _ _ _ _ _ => trivial)
    (fun a _ => by
      show wG (d + 5) 30 (7, [.ref 11, .int (nI (hp t)), .int (nI t.n)], [], mkH E ro) Q = _
      rw [sg_X2_firstBroken_7 s_E, hC.n, if_neg (nI_nlt (Nat.le_refl _) (by omega))])
    t.n 0 () (by omega) trivial
/-- an error: answered, and counted -/
def er (k : Nat) : Int32 := nI 0 - 1000000000 - nI k
def eC (ro : Nat → Nat → Int32) (k : Nat) : Nat → Nat → Int32 := uI ro 100 (k - 1) (ro 100 (k - 1) + 1)
def eM (ro : Nat → Nat → Int32) (k : Nat) : Nat → Nat → Int32 := uI ro 104 k (ro 104 k + 1)
theorem wr_f {k : Nat} (h : 1 ≤ k ∧ k ≤ 5) : f_X9_wrong (er k) = er k := by
  unfold f_X9_wrong
  split <;> rfl
theorem wr_g {k : Nat} (h : 1 ≤ k ∧ k ≤ 5) : g_X9_wrong ro (er k) = eC ro k := by
  have e1 : ∀ k, k ≤ 5 → 1 ≤ k → f_X9_within (-1000000000 - er k) 1 5 = 1 ∧ (-1000000000 - er k - 1).toNatClampNeg = k - 1 := by decide +kernel
  obtain ⟨h1, h2⟩ := e1 k h.2 h.1
  unfold g_X9_wrong eC
  rw [h1, h2, if_neg (by decide)]
theorem x_fin (s_E : oE E) {k : Nat} (h : 1 ≤ k ∧ k ≤ 5) : wX (d + 1) 153 [.ref 101, .int (nI k)] (mkH E ro) Q = Q (some (.int (er k))) (mkH E (eM ro k)) := by
  refine (x_X10_finds s_E (ix_n (show k < 6 by omega) (by decide))).trans ?_
  unfold f_X10_finds g_X10_finds eM
  rw [nI_clamp (by omega)]
  have e1 : ∀ k, k ≤ 5 → (-1000000000 : Int32) - nI k = er k := by decide +kernel
  rw [e1 k h.2]
theorem x_X10_flaw (s_E : oE E) (ok : tOK t) (hM : tM t ro) : wX (d + 6) 203 [.ref 101] (mkH E ro) Q = if fb t < 0 then Q (some (.int (er 2))) (mkH E (eM ro 2)) else Q (some (.int (fb t))) (mkH E ro) := by
  have hn := ok.n
  refine (en_X10_flaw (d := d + 5) s_E).trans ?_
  exact loop_itx (α := Unit) (P := fun i _ => wG (d + 5) 203 (2, [.ref 101, .int (nI i)], [], mkH E ro) Q) (R := fun (r : Int32) => if r < 0 then Q (some (.int (er 2))) (mkH E (eM ro 2)) else Q (some (.int r)) (mkH E ro)) (I := fun _ _ => True) (n := t.n)
    (fun i a hi _ => by
      have ho := ok.o i hi
      have oa := o_at (show i < 7 by omega)
      show wG (d + 5) 203 (2, [.ref 101, .int (nI i)], [], mkH E ro) Q = _
      rw [sg_X10_flaw_2 s_E (fun _ => ⟨oa.2, by omega⟩), hM.n, if_pos (nI_lt hi (by omega)), oa.1, hM.o i hi]
      refine (x_X10_isBroken s_E ok hM ho).trans ?_
      refine (sg_X10_flaw_25 (d := d + 5) s_E).trans ?_
      rw [← nI_succ, if_neg (nI_pos (show i < 2 ^ 31 by omega))]
      by_cases h : br t (hp t) (t.o i) = true
      · rw [h]; simp
      · simp only [Bool.not_eq_true] at h
        rw [h]; simp)
    (fun _ _ _ _ _ => trivial)
    (fun a _ => by
      have hlt : ¬ nI t.n < ro 102 0 := by rw [hM.n]; exact nI_nlt (Nat.le_refl _) (by omega)
      refine (sg_X10_flaw_2 s_E (fun h => absurd h hlt)).trans ?_
      rw [if_neg hlt, if_pos (by decide)]
      refine (x_fin (d := d + 4) (k := 2) s_E (by decide)).trans ?_
      exact sg_X10_flaw_41 (d := d + 5) s_E)
    t.n 0 () (by omega) trivial
theorem x_X9_flaw (s_E : oE E) (ok : tOK t) (hC : tC t ro) : wX (d + 7) 108 [.ref 10] (mkH E ro) Q = if fb t < 0 then Q (some (.int (er 2))) (mkH E (eC ro 2)) else Q (some (.int (fb t))) (mkH E ro) := by
  refine (en_X9_flaw (d := d + 6) s_E).trans ?_
  refine (x_X2_firstBroken s_E ok hC).trans ?_
  refine (sg_X9_flaw_7 (d := d + 6) s_E).trans ?_
  by_cases h : fb t < 0
  · rw [if_pos h, if_pos h]
    refine (x_X9_wrong (d := d + 4) s_E ?_).trans ?_
    · exact fun _ => by decide
    rw [show (-1000000002 : Int32) = er 2 from by decide, wr_f (by decide), wr_g (by decide)]
    exact sg_X9_flaw_18 (d := d + 6) s_E
  · rw [if_neg h, if_neg h]
end FL
