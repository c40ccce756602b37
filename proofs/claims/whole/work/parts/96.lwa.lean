/-! THE WHOLE SCRIPT -/
section LWA
variable {d : Nat} {E : pEv} {r : Nat → Nat → Int32}
theorem sub6 {N i : Nat} (hN : N ≤ 3072) (h : ¬ i + 6 ≤ N) (hi : i ≤ 4000) : (Int32.ofNat N) - 6 < nI i := by
  refine Int32.lt_iff_toInt_lt.mpr ?_
  show (nI N - nI 6).toInt < (nI i).toInt
  rw [Int32.toInt_sub, nI_toInt (by omega), nI_toInt (by omega), nI_toInt (by omega)]
  have e : ((N : Int) - ((6 : Nat) : Int)).bmod (2 ^ 32) = (N : Int) - 6 := Int.bmod_eq_of_le_mul_two (by omega) (by omega)
  rw [e]
  omega
theorem lw_all (s_E : oE E) (hN : E.1 ≤ 3072) : ∀ m i r, E.1 ≤ i + 6 * m → i ≤ E.1 + 6 → Inv r → ∃ rz, ∀ Q, wG (d + 70) 258 (18, [.ref 9, .ref 10, .ref 101, .int (nI i)], [], mkH E r) Q = Q (some (.int 1)) (mkH E rz) := by
  intro m
  induction m with
  | zero =>
    intro i r h1 h2 hI
    exact ⟨r, fun Q => lw_end s_E hN (sub6 hN (by omega) (by omega)) (by omega)⟩
  | succ m ih =>
    intro i r h1 h2 hI
    by_cases h6 : i + 6 ≤ E.1
    · obtain ⟨r2, i2, e2⟩ := lw_step (d := d) s_E hN h6 hI
      obtain ⟨rz, e3⟩ := ih (i + 6) r2 (by omega) (by omega) i2
      exact ⟨rz, fun Q => (e2 Q).trans (e3 Q)⟩
    · exact ⟨r, fun Q => lw_end s_E hN (sub6 hN h6 (by omega)) (by omega)⟩
end LWA
