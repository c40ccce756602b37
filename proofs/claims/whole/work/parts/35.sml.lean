section SM
variable {d : Nat} {E : pEv} {ro : Nat → Nat → Int32} {Q : Option Value → pH → Prop} {t : Th}
theorem x_wr (s_E : oE E) {k : Nat} (h : 1 ≤ k ∧ k ≤ 5) : wX (d + 2) 136 [.ref 10, .int (er k)] (mkH E ro) Q = Q (some (.int (er k))) (mkH E (eC ro k)) := by
  have e1 : ∀ k, k ≤ 5 → 1 ≤ k → ¬ (-1000000000 - er k - 1) < 0 ∧ (-1000000000 - er k - 1).toNatClampNeg < 5 := by decide +kernel
  refine (x_X9_wrong (d := d) s_E (fun _ => e1 k h.2 h.1)).trans ?_
  rw [wr_f h, wr_g h]
theorem wi_n {x : Int32} {m : Nat} (hm : m < 2 ^ 31) : f_X9_within x 0 (nI m) = 1 ∧ (∃ j, j ≤ m ∧ x = nI j) ∨ f_X9_within x 0 (nI m) = 0 ∧ ¬ ∃ j, j ≤ m ∧ x = nI j := by
  unfold f_X9_within
  by_cases h1 : x < 0
  · refine Or.inr ⟨by rw [if_pos h1], fun ⟨j, hj, hx⟩ => ?_⟩
    subst hx
    exact nI_pos (by omega) h1
  · obtain ⟨j, hj, rfl⟩ := nI_of h1
    by_cases h2 : j ≤ m
    · exact Or.inl ⟨by rw [if_neg h1, if_neg (Int32.not_lt.mpr (nI_le h2 hm))], j, h2, rfl⟩
    · refine Or.inr ⟨by rw [if_neg h1, if_pos (nI_lt (by omega) hj)], fun ⟨i, hi, hx⟩ => ?_⟩
      have := (nI_eq hj (by omega)).mp hx
      omega
theorem st_C (ok : tOK t) (hC : tC t ro) (x : Int32) : f_X9_stands ro x = 1 ∧ (∃ j, j < t.n ∧ x = nI j) ∨ f_X9_stands ro x = 0 ∧ ¬ ∃ j, j < t.n ∧ x = nI j := by
  have hn := ok.n
  unfold f_X9_stands
  rw [hC.n]
  rcases Nat.eq_zero_or_pos t.n with h0 | h0
  · refine Or.inr ⟨?_, fun ⟨j, hj, _⟩ => by omega⟩
    rw [h0]
    unfold f_X9_within
    by_cases h1 : x < 0
    · rw [if_pos h1]
    · obtain ⟨j, hj, rfl⟩ := nI_of h1
      rw [if_neg h1, if_pos]
      refine Int32.lt_iff_toInt_lt.mpr ?_
      rw [nI_toInt hj, show (nI 0 - 1).toInt = -1 from by decide]
      omega
  · obtain ⟨m, hm⟩ : ∃ m, t.n = m + 1 := ⟨t.n - 1, by omega⟩
    rw [hm, nI_pred]
    rcases wi_n (x := x) (m := m) (by omega) with ⟨h1, j, hj, hx⟩ | ⟨h1, h2⟩
    · exact Or.inl ⟨h1, j, by omega, hx⟩
    · exact Or.inr ⟨h1, fun ⟨j, hj, hx⟩ => h2 ⟨j, by omega, hx⟩⟩
theorem x_X9_comes (s_E : oE E) (ok : tOK t) (hC : tC t ro) : wX (d + 5) 102 [.ref 10] (mkH E ro) Q = Q (some (.int (nI (hp t)))) (mkH E ro) := by
  refine (en_X9_comes (d := d + 4) s_E).trans ?_
  refine (x_X2_happening s_E ok hC).trans ?_
  exact sg_X9_comes_7 (d := d + 4) s_E
theorem x_X10_comes (s_E : oE E) (ok : tOK t) (hM : tM t ro) : wX (d + 5) 187 [.ref 101] (mkH E ro) Q = Q (some (.int (nI (hp t)))) (mkH E ro) := by
  refine (en_X10_comes (d := d + 4) s_E).trans ?_
  refine (x_all s_E ok hM).trans ?_
  exact sg_X10_comes_4 (d := d + 4) s_E
end SM
section SN
variable {d : Nat} {E : pEv} {ro : Nat → Nat → Int32} {Q : Option Value → pH → Prop} {t : Th}
theorem lgl {x y : Int32} : (lg_cmp x.toInt64 y.toInt64 < 0) = (x < y) ∧ (0 < lg_cmp x.toInt64 y.toInt64) = (y < x) := by
  unfold lg_cmp
  rw [show (x < y) = (x.toInt < y.toInt) from propext Int32.lt_iff_toInt_lt, show (y < x) = (y.toInt < x.toInt) from propext Int32.lt_iff_toInt_lt]
  have g1 : (x.toInt64 > y.toInt64) = (y.toInt < x.toInt) := propext (by rw [GT.gt, Int64.lt_iff_toInt_lt, Int32.toInt_toInt64, Int32.toInt_toInt64])
  have g2 : (x.toInt64 = y.toInt64) = (x.toInt = y.toInt) := propext ⟨fun h => by rw [← Int32.toInt_toInt64 x, h, Int32.toInt_toInt64], fun h => Int64.toInt_inj.mp (by rw [Int32.toInt_toInt64, Int32.toInt_toInt64, h])⟩
  simp only [g1, g2]
  by_cases h1 : y.toInt < x.toInt
  · rw [if_pos h1]
    exact ⟨propext ⟨fun h => absurd h (by decide), fun h => by omega⟩, propext ⟨fun _ => h1, fun _ => by decide⟩⟩
  · by_cases h2 : x.toInt = y.toInt
    · rw [if_neg h1, if_pos h2]
      exact ⟨propext ⟨fun h => absurd h (by decide), fun h => by omega⟩, propext ⟨fun h => absurd h (by decide), fun h => by omega⟩⟩
    · rw [if_neg h1, if_neg h2]
      exact ⟨propext ⟨fun _ => by omega, fun _ => by decide⟩, propext ⟨fun h => absurd h (by decide), fun h => by omega⟩⟩
theorem in_l {x a b : Int32} : f_X10_in x.toInt64 a.toInt64 b.toInt64 = f_X9_within x a b := by
  unfold f_X10_in f_X9_within
  simp only [lgl.1, lgl.2]
theorem st_M (ok : tOK t) (hM : tM t ro) (x : Int32) : f_X10_isScene ro x = 1 ∧ (∃ j, j < t.n ∧ x = nI j) ∨ f_X10_isScene ro x = 0 ∧ ¬ ∃ j, j < t.n ∧ x = nI j := by
  have e : f_X10_isScene ro x = f_X9_stands (fun _ _ => ro 102 0) x := by
    unfold f_X10_isScene f_X9_stands
    exact in_l (a := 0)
  rw [e]
  have hn := ok.n
  unfold f_X9_stands
  rw [hM.n]
  rcases Nat.eq_zero_or_pos t.n with h0 | h0
  · refine Or.inr ⟨?_, fun ⟨j, hj, _⟩ => by omega⟩
    rw [h0]
    unfold f_X9_within
    by_cases h1 : x < 0
    · rw [if_pos h1]
    · obtain ⟨j, hj, rfl⟩ := nI_of h1
      rw [if_neg h1, if_pos]
      refine Int32.lt_iff_toInt_lt.mpr ?_
      rw [nI_toInt hj, show (nI 0 - 1).toInt = -1 from by decide]
      omega
  · obtain ⟨m, hm⟩ : ∃ m, t.n = m + 1 := ⟨t.n - 1, by omega⟩
    rw [hm, nI_pred]
    rcases wi_n (x := x) (m := m) (by omega) with ⟨h1, j, hj, hx⟩ | ⟨h1, h2⟩
    · exact Or.inl ⟨h1, j, by omega, hx⟩
    · exact Or.inr ⟨h1, fun ⟨j, hj, hx⟩ => h2 ⟨j, by omega, hx⟩⟩
end SN
