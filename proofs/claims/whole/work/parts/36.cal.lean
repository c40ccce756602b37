section UC
variable {d : Nat} {E : pEv} {ro : Nat → Nat → Int32} {Q : Option Value → pH → Prop} {t : Th}
theorem x_X9_understood (s_E : oE E) (ok : tOK t) (hC : tC t ro) {j : Nat} (hj : j < t.n) : wX (d + 4) 107 [.ref 10, .int (nI j)] (mkH E ro) Q = Q (some (.int (nI (un t j)))) (mkH E ro) := by
  refine (en_X9_understood (d := d + 3) s_E).trans ?_
  refine (x_X9_stands (d := d + 1) s_E).trans ?_
  rcases st_C ok hC (nI j) with ⟨h1, _⟩ | ⟨_, h2⟩
  · rw [h1]
    refine (sg_X9_understood_5 (d := d + 3) s_E).trans ?_
    rw [if_neg (by decide)]
    refine (x_X2_understoodBy (d := d + 1) s_E ok hC hj).trans ?_
    exact sg_X9_understood_23 (d := d + 3) s_E
  · exact absurd ⟨j, hj, rfl⟩ h2
theorem x_X9_understood' (s_E : oE E) (ok : tOK t) (hC : tC t ro) {x : Int32} (hx : ¬ ∃ j, j < t.n ∧ x = nI j) : wX (d + 4) 107 [.ref 10, .int x] (mkH E ro) Q = Q (some (.int (er 1))) (mkH E (eC ro 1)) := by
  refine (en_X9_understood (d := d + 3) s_E).trans ?_
  refine (x_X9_stands (d := d + 1) s_E).trans ?_
  rcases st_C ok hC x with ⟨_, h2⟩ | ⟨h1, _⟩
  · exact absurd h2 hx
  · rw [h1]
    refine (sg_X9_understood_5 (d := d + 3) s_E).trans ?_
    rw [if_pos rfl, show (-1000000001 : Int32) = er 1 from by decide]
    refine (x_wr (d := d + 1) s_E (by decide)).trans ?_
    exact sg_X9_understood_14 (d := d + 3) s_E
theorem x_X10_understood (s_E : oE E) (ok : tOK t) (hM : tM t ro) {j : Nat} (hj : j < t.n) : wX (d + 3) 202 [.ref 101, .int (nI j)] (mkH E ro) Q = Q (some (.int (nI (un t j)))) (mkH E ro) := by
  have hn := ok.n
  refine (en_X10_understood (d := d + 2) s_E).trans ?_
  refine (x_X10_isScene (d := d) s_E).trans ?_
  rcases st_M ok hM (nI j) with ⟨h1, _⟩ | ⟨_, h2⟩
  · rw [h1]
    refine (sg_X10_understood_5 (d := d + 2) s_E).trans ?_
    rw [if_neg (by decide), sh31 (by omega), show (1 : Int32) = nI 1 from rfl, nI_shl (by omega)]
    exact x_X10_understood0 (d := d + 1) s_E ok hM hj _
  · exact absurd ⟨j, hj, rfl⟩ h2
theorem x_X10_understood' (s_E : oE E) (ok : tOK t) (hM : tM t ro) {x : Int32} (hx : ¬ ∃ j, j < t.n ∧ x = nI j) : wX (d + 3) 202 [.ref 101, .int x] (mkH E ro) Q = Q (some (.int (er 1))) (mkH E (eM ro 1)) := by
  refine (en_X10_understood (d := d + 2) s_E).trans ?_
  refine (x_X10_isScene (d := d) s_E).trans ?_
  rcases st_M ok hM x with ⟨_, h2⟩ | ⟨h1, _⟩
  · exact absurd h2 hx
  · rw [h1]
    refine (sg_X10_understood_5 (d := d + 2) s_E).trans ?_
    rw [if_pos rfl]
    refine (x_fin (d := d + 1) (k := 1) s_E (by decide)).trans ?_
    exact sg_X10_understood_13 (d := d + 2) s_E
end UC
