section SM
variable {d : Nat} {E : pEv} {ro : Nat → Nat → Int32} {Q : Option Value → pH → Prop} {t : Th}
theorem x_wr (s_E : oE E) {k : Nat} (h : 1 ≤ k ∧ k ≤ 5) : wX (d + 2) 136 [.ref 10, .int (er k)] (mkH E ro) Q = Q (some (.int (er k))) (mkH E (eC ro k)) := by
  have e1 : ∀ k, k ≤ 5 → 1 ≤ k → ¬ (-1000000000 - er k - 1) < 0 ∧ (-1000000000 - er k - 1).toNatClampNeg < 5 := by decide +kernel
  refine (x_X9_wrong (d := d) s_E (fun _ => e1 k h.2 h.1)).trans ?_
  rw [wr_f h, wr_g h]
theorem wi_n {x : Int32} {m : Nat} (hm : m < 2 ^ 31) : f_X9_within x 0 (nI m) = 1 ∧ (∃ j, j ≤ m ∧ x = nI j) ∨ f_X9_within x 0 (nI m) = 0 ∧ ¬ ∃ j, j ≤ m ∧ x = nI j := by
  unfold f_X9_within
  by_cases h1 : x < 0
  · refine Or.inr ⟨by rw [if_pos h1], fun ⟨j, hj, hx⟩ => ?_⟩
    subst hx
    exact nI_pos (by omega) h1
  · obtain ⟨j, hj, rfl⟩ := nI_of h1
    by_cases h2 : j ≤ m
    · exact Or.inl ⟨by rw [if_neg h1, if_neg (Int32.not_lt.mpr (nI_le h2 hm))], j, h2, rfl⟩
    · refine Or.inr ⟨by rw [if_neg h1, if_pos (nI_lt (by omega) hj)], fun ⟨i, hi, hx⟩ => ?_⟩
      have := (nI_eq hj (by omega)).mp hx
      omega
theorem st_C (ok : tOK t) (hC : tC t ro) (x : Int32) : f_X9_stands ro x = 1 ∧ (∃ j, j < t.n ∧ x = nI j) ∨ f_X9_stands ro x = 0 ∧ ¬ ∃ j, j < t.n ∧ x = nI j := by
  have hn := ok.n
  unfold f_X9_stands
  rw [hC.n]
  rcases Nat.eq_zero_or_pos t.n with h0 | h0
  · refine Or.inr ⟨?_, fun ⟨j, hj, _⟩ => by omega⟩
    rw [h0]
    unfold f_X9_within
    by_cases h1 : x < 0
    · rw [if_pos h1]
    · obtain ⟨j, hj, rfl⟩ := nI_of h1
      rw [if_neg h1, if_pos]
      refine Int32.lt_iff_toInt_lt.mpr ?_
      rw [nI_toInt hj, show (nI 0 - 1).toInt = -1 from by decide]
      omega
  · obtain ⟨m, hm⟩ : ∃ m, t.n = m + 1 := ⟨t.n - 1, by omega⟩
    rw [hm, nI_pred]
    rcases wi_n (x := x) (m := m) (by omega) with ⟨h1, j, hj, hx⟩ | ⟨h1, h2⟩
    · exact Or.inl ⟨h1, j, by omega, hx⟩
    · exact Or.inr ⟨h1, fun ⟨j, hj, hx⟩ => h2 ⟨j, by omega, hx⟩⟩
theorem x_X9_comes (s_E : oE E) (ok : tOK t) (hC : tC t ro) : wX (d + 5) 102 [.ref 10] (mkH E ro) Q = Q (some (.int (nI (hp t)))) (mkH E ro) := by
  refine (en_X9_comes (d := d + 4) s_E).trans ?_
  refine (x_X2_happening s_E ok hC).trans ?_
  exact sg_X9_comes_7 (d := d + 4) s_E
theorem x_X10_comes (s_E : oE E) (ok : tOK t) (hM : tM t ro) : wX (d + 5) 187 [.ref 101] (mkH E ro) Q = Q (some (.int (nI (hp t)))) (mkH E ro) := by
  refine (en_X10_comes (d := d + 4) s_E).trans ?_
  refine (x_all s_E ok hM).trans ?_
  exact sg_X10_comes_4 (d := d + 4) s_E
end SM
