/-! what is known of the made objects -/
def oRow (r c : Nat) : Prop := 10 ≤ r ∧ sB r = .inl 4 ∧ rB r 0 = some (r + 1) ∧ sB (r + 1) = .inr (0, c)
def oScene (r : Nat) : Prop := 10 ≤ r ∧ sB r = .inl 5 ∧ r < 116
def oLaw (o : Nat) : Prop := 10 ≤ o ∧ sB o = .inl 1 ∧ rB o 1 = some (o + 1) ∧ rB o 2 = some (o + 3) ∧ oRow (o + 1) 50 ∧ oRow (o + 3) 50
def oSheet (o : Nat) : Prop := 10 ≤ o ∧ sB o = .inl 6 ∧ rB o 0 = some (o + 1) ∧ oRow (o + 1) 40
def oPlay (p : Nat) : Prop := 10 ≤ p ∧ sB p = .inl 2 ∧ rB p 0 = some (p + 1) ∧ rB p 1 = some (p + 9) ∧ rB p 2 = some (p + 11) ∧ rB p 3 = some (p + 16) ∧ rB p 4 = some (p + 21) ∧ rB p 5 = some (p + 23) ∧ rB p 6 = some (p + 25) ∧ sB (p + 1) = .inr (2, 7) ∧ (∀ j, j < 7 → rB (p + 1) j = some (p + 2 + j) ∧ oScene (p + 2 + j)) ∧ oRow (p + 9) 4 ∧ oRow (p + 21) 7 ∧ oRow (p + 23) 50 ∧ oRow (p + 25) 20 ∧ oLaw (p + 11) ∧ oLaw (p + 16)
theorem n81 {a ci sl : Nat} (hs : sB a = .inl ci) (hc : ci ≠ 3) : (a == 81 && sl == 1) = false := by
  have : a ≠ 81 := fun e => by
    subst e
    exact hc (Sum.inl.inj hs).symm
  simp [this]
theorem ne9 {a : Nat} (h : 10 ≤ a) : a ≠ 9 := by omega
theorem ne81 {a : Nat} {s : pSh} (h : sB a = s) (hs : s ≠ .inl 3) : a ≠ 81 := fun e => by
  subst e
  exact hs h.symm
theorem sh_at : ∀ {j : Nat}, j < 4 → rB 87 j = some (88 + 3 * j) ∧ oSheet (88 + 3 * j) := by
  intro j hj
  match j, hj with
  | 0, _ => exact ⟨rfl, by decide, rfl, rfl, by decide, rfl, rfl, rfl⟩
  | 1, _ => exact ⟨rfl, by decide, rfl, rfl, by decide, rfl, rfl, rfl⟩
  | 2, _ => exact ⟨rfl, by decide, rfl, rfl, by decide, rfl, rfl, rfl⟩
  | 3, _ => exact ⟨rfl, by decide, rfl, rfl, by decide, rfl, rfl, rfl⟩
  | j + 4, h => exact absurd h (by omega)
theorem capB {a c : Nat} (h : sB a = .inr (0, c)) : c < 1000 := by
  have hl := sB_lt h
  have hall : ∀ a, a < 116 → (match sB a with | .inr (0, c) => decide (c < 1000) | _ => true) = true := by decide +kernel
  by_cases h9 : (Sum.inr (0, c) : pSh) = .inr (9, 0)
  · cases h9
  · have := hall a (hl h9)
    rw [h] at this
    simpa using this
theorem ixR {x : Int32} {c : Nat} (hc : c < 1000) (h1 : ¬ x < 0) (h2 : x < Int32.ofNat c) : ¬ x < 0 ∧ x.toNatClampNeg < c := by
  refine ⟨h1, ?_⟩
  obtain ⟨j, hj, rfl⟩ := nI_of h1
  rw [nI_clamp hj]
  exact (nI_ltI hj (by omega)).mp h2
theorem ixL {x y : Int32} {n : Nat} (hc : decide (n < 1000) = true ∧ y = Int32.ofNat y.toNatClampNeg ∧ y.toNatClampNeg ≤ n) (h1 : ¬ x < 0) (h2 : x < y) : ¬ x < 0 ∧ x.toNatClampNeg < n := by
  refine ⟨h1, ?_⟩
  obtain ⟨hc1, hc2, hc3⟩ := hc
  simp only [decide_eq_true_eq] at hc1
  rw [hc2] at h2
  have := (ixR (by omega) h1 h2).2
  omega
theorem oR {r c : Nat} (h : (decide (10 ≤ r) && decide (sB r = .inl 4) && decide (rB r 0 = some (r + 1)) && decide (sB (r + 1) = .inr (0, c))) = true) : oRow r c := by
  simp only [Bool.and_eq_true, decide_eq_true_eq] at h
  exact ⟨h.1.1.1, h.1.1.2, h.1.2, h.2⟩
theorem oL {o : Nat} (h : (decide (10 ≤ o) && decide (sB o = .inl 1) && decide (rB o 1 = some (o + 1)) && decide (rB o 2 = some (o + 3))) = true) (h1 : oRow (o + 1) 50) (h2 : oRow (o + 3) 50) : oLaw o := by
  simp only [Bool.and_eq_true, decide_eq_true_eq] at h
  exact ⟨h.1.1.1, h.1.1.2, h.1.2, h.2, h1, h2⟩
theorem oS_at {p : Nat} (hp : p = 11 ∨ p = 38) : ∀ j, j < 7 → rB (p + 1) j = some (p + 2 + j) ∧ oScene (p + 2 + j) := by
  intro j hj
  rcases hp with rfl | rfl <;>
  (match j, hj with
  | 0, _ => exact ⟨rfl, by decide, rfl, by decide⟩
  | 1, _ => exact ⟨rfl, by decide, rfl, by decide⟩
  | 2, _ => exact ⟨rfl, by decide, rfl, by decide⟩
  | 3, _ => exact ⟨rfl, by decide, rfl, by decide⟩
  | 4, _ => exact ⟨rfl, by decide, rfl, by decide⟩
  | 5, _ => exact ⟨rfl, by decide, rfl, by decide⟩
  | 6, _ => exact ⟨rfl, by decide, rfl, by decide⟩
  | j + 7, h => exact absurd h (by omega))
theorem oP11 : oPlay 11 := ⟨by decide, rfl, rfl, rfl, rfl, rfl, rfl, rfl, rfl, rfl, oS_at (Or.inl rfl), oR rfl, oR rfl, oR rfl, oR rfl, oL rfl (oR rfl) (oR rfl), oL rfl (oR rfl) (oR rfl)⟩
theorem oP38 : oPlay 38 := ⟨by decide, rfl, rfl, rfl, rfl, rfl, rfl, rfl, rfl, rfl, oS_at (Or.inr rfl), oR rfl, oR rfl, oR rfl, oR rfl, oL rfl (oR rfl) (oR rfl), oL rfl (oR rfl) (oR rfl)⟩
