/-! HOW IT BEGINS -/
section BEG
variable {d : Nat} {E : pEv} {r : Nat → Nat → Int32}
def t0B : Th := fun a _ => if a = 11 then 1 else 0
def X0B : Tx := fun _ => (fun _ => 0, 0)
theorem ib_t : (∀ k, 7 ≤ k → k < 12 → 0 < k ∧ k < szB 11 ∧ iB 11 k = if k = 8 ∨ k = 11 then 1 else 0) := by
  have : ∀ k, k < 12 → 7 ≤ k → 0 < k ∧ k < szB 11 ∧ iB 11 k = if k = 8 ∨ k = 11 then 1 else 0 := by decide +kernel
  exact fun k h1 h2 => this k h2 h1
theorem ib_s : ∀ i, i < 7 → (0 < szB (13 + i) ∧ iB (13 + i) 0 = nI i) ∧ 0 < szB (40 + i) ∧ iB (40 + i) 0 = nI i := by decide +kernel
theorem ib_r : ∀ a, a < 38 → (a = 20 ∨ a = 25 ∨ a = 30 ∨ a = 32 ∨ a = 34 ∨ a = 36) → 1 < szB a ∧ iB a 1 = if a = 20 then 4 else 0 := by decide +kernel
theorem ib_m : ∀ k, k < 8 → k < szB 102 ∧ iB 102 k = if k = 1 ∨ k = 2 then 1 else 0 := by decide +kernel
theorem ib_m2 : ∀ k, k < 2 → 90 + k < szB 102 ∧ iB 102 (90 + k) = 0 := by decide +kernel
theorem ib_u : ∀ u, u < 2 → (0 < szB (22 + 5 * u) ∧ iB (22 + 5 * u) 0 = nI u) ∧ 0 < szB (49 + 5 * u) ∧ iB (49 + 5 * u) 0 = nI u := by decide +kernel
theorem ib_x : (8 < szB 10 ∧ iB 10 8 = 0) ∧ (2 < szB 101 ∧ iB 101 2 = 0) ∧ (19 < szB 101 ∧ iB 101 19 = 0) ∧ (1 < szB 47 ∧ iB 47 1 = 4) ∧ (1 < szB 85 ∧ iB 85 1 = 0) := by decide +kernel
theorem ib_e : ∀ k, k < 6 → 1 ≤ k → (k - 1 < szB 100 ∧ iB 100 (k - 1) = 0) ∧ k < szB 104 ∧ iB 104 k = 0 := by decide +kernel
theorem ib_h : ∀ s, s < 4 → (1 < szB (88 + 3 * s) ∧ iB (88 + 3 * s) 1 = 0) ∧ (s < szB 112 ∧ iB 112 s = 0) ∧ (1 < szB (89 + 3 * s) ∧ iB (89 + 3 * s) 1 = 0) ∧ s < szB 113 ∧ iB 113 s = 0 := by decide +kernel
theorem ib_z : (1 < szB 66 ∧ iB 66 1 = nI 49) ∧ (1 < szB 68 ∧ iB 68 1 = nI 128) ∧ (1 < szB 70 ∧ iB 70 1 = nI 128) ∧ (1 < szB 72 ∧ iB 72 1 = nI 896) ∧ 1 < szB 74 ∧ iB 74 1 = nI 4 := by decide +kernel
theorem Inv_0 (H : ∀ i q, 10 ≤ i → i < 116 → q < szB i → r i q = iB i q) : Inv r := by
  obtain ⟨x1, x2, x3, x4, x5⟩ := ib_x
  obtain ⟨z1, z2, z3, z4, z5⟩ := ib_z
  have nn : ∀ {i : Nat}, i < t0B.n → False := fun {i} h => by
    have : i < 0 := h
    omega
  have h11 : ∀ k, 7 ≤ k → k < 12 → r 11 k = if k = 8 ∨ k = 11 then 1 else 0 := fun k h1 h2 => (H 11 k (by omega) (by omega) (ib_t k h1 h2).2.1).trans (ib_t k h1 h2).2.2
  have hm : ∀ k, k < 8 → r 102 k = if k = 1 ∨ k = 2 then 1 else 0 := fun k h => (H 102 k (by omega) (by omega) (ib_m k h).1).trans (ib_m k h).2
  have hr : ∀ a, a < 38 → (a = 20 ∨ a = 25 ∨ a = 30 ∨ a = 32 ∨ a = 34 ∨ a = 36) → r a 1 = if a = 20 then 4 else 0 := fun a h1 h2 => (H a 1 (by omega) (by omega) (ib_r a h1 h2).1).trans (ib_r a h1 h2).2
  refine ⟨⟨t0B, X0B, ?_, fun u hu => ⟨by show 0 ≤ 50; omega, fun k (hk : k < 0) => absurd hk (by omega), Or.inl rfl⟩, ⟨?_, ?_, ?_, ?_, ?_, ?_, ?_, ?_, ?_, ?_, ?_, ?_, ?_, ?_, ?_⟩, ⟨fun u hu => ⟨?_, fun k hk => ?_⟩, fun u hu => ?_⟩, ⟨?_, ?_, ?_, ?_, ?_, ?_, ?_, ?_, ?_, ?_, ?_, ?_⟩, fun u hu => ⟨?_, fun k (hk : k < 0) => absurd hk (by omega)⟩, ⟨?_, ?_, ?_⟩, ⟨0, fun _ => 0, by omega, fun k hk => absurd hk (by omega), ?_, ?_, fun k hk => absurd hk (by omega), fun k hk => absurd hk (by omega)⟩, 0, by omega, ?_, ?_, fun k hk => absurd hk (by omega)⟩, ⟨?_, fun q => ?_, fun i hi => ?_, ?_, fun u hu => ?_⟩, fun k k1 k2 => ?_, ⟨0, by omega, ?_, ?_, fun i hi => absurd hi (by omega)⟩, fun s hs => ⟨0, 0, by omega, Or.inl rfl, ?_, ?_, ?_, ?_, fun k hk => absurd hk (by omega)⟩, ?_, ?_, ?_, ?_, ?_⟩
  · exact ⟨by show 0 ≤ 7; omega, fun i h => (nn h).elim, fun i h => (nn h).elim, fun i h => (nn h).elim, fun i h => (nn h).elim, fun i h => (nn h).elim, fun i h => (nn h).elim, fun i h => (nn h).elim, fun i h => (nn h).elim, fun i h => (nn h).elim, fun i h => (nn h).elim, fun i j h => (nn h).elim, by show 1 ≤ 1; omega⟩
  · exact h11 7 (by omega) (by omega)
  · intro i hi; exact (H _ _ (by omega) (by omega) (ib_s i hi).1.1).trans (ib_s i hi).1.2
  · intro i h; exact (nn h).elim
  · intro i h; exact (nn h).elim
  · intro i h; exact (nn h).elim
  · intro i h; exact (nn h).elim
  · intro i h; exact (nn h).elim
  · intro i h; exact (nn h).elim
  · intro i h; exact (nn h).elim
  · intro i h; exact (nn h).elim
  · intro i h; exact (nn h).elim
  · exact hr 32 (by omega) (by omega)
  · intro i h; exact (nn h).elim
  · exact h11 8 (by omega) (by omega)
  · exact hr 20 (by omega) (by omega)
  · rcases (by omega : u = 0 ∨ u = 1) with rfl | rfl
    · exact hr 25 (by omega) (by omega)
    · exact hr 30 (by omega) (by omega)
  · exact absurd hk (by show ¬ k < 0; omega)
  · exact (H _ _ (by omega) (by omega) (ib_u u hu).1.1).trans (ib_u u hu).1.2
  · exact hm 0 (by omega)
  · intro i h; exact (nn h).elim
  · intro i h; exact (nn h).elim
  · intro i h; exact (nn h).elim
  · intro i h; exact (nn h).elim
  · intro i h; exact (nn h).elim
  · intro i h; exact (nn h).elim
  · intro i h; exact (nn h).elim
  · intro i h; exact (nn h).elim
  · intro i h; exact (nn h).elim
  · intro i h; exact (nn h).elim
  · exact hm 2 (by omega)
  · exact (H _ _ (by omega) (by omega) (ib_m2 u hu).1).trans (ib_m2 u hu).2
  · rw [h11 9 (by omega) (by omega), hm 3 (by omega)]; rfl
  · rw [h11 10 (by omega) (by omega), hm 4 (by omega)]; rfl
  · rw [h11 11 (by omega) (by omega), hm 1 (by omega)]; rfl
  · exact hr 34 (by omega) (by omega)
  · exact hm 5 (by omega)
  · exact hr 36 (by omega) (by omega)
  · exact hm 6 (by omega)
  · rw [H _ _ (by omega) (by omega) x1.1, H _ _ (by omega) (by omega) x2.1, x1.2, x2.2]
  · exact absurd ((H _ _ (by omega) (by omega) x1.1).trans x1.2) q
  · exact (H _ _ (by omega) (by omega) (ib_s i hi).2.1).trans (ib_s i hi).2.2
  · exact (H _ _ (by omega) (by omega) x4.1).trans x4.2
  · exact (H _ _ (by omega) (by omega) (ib_u u hu).2.1).trans (ib_u u hu).2.2
  · rw [H _ _ (by omega) (by omega) (ib_e k (by omega) k1).1.1, H _ _ (by omega) (by omega) (ib_e k (by omega) k1).2.1, (ib_e k (by omega) k1).1.2, (ib_e k (by omega) k1).2.2]
  · exact (H _ _ (by omega) (by omega) x5.1).trans x5.2
  · exact (H _ _ (by omega) (by omega) x3.1).trans x3.2
  · exact (H _ _ (by omega) (by omega) (ib_h s hs).1.1).trans (ib_h s hs).1.2
  · exact (H _ _ (by omega) (by omega) (ib_h s hs).2.1.1).trans (ib_h s hs).2.1.2
  · exact (H _ _ (by omega) (by omega) (ib_h s hs).2.2.1.1).trans (ib_h s hs).2.2.1.2
  · exact (H _ _ (by omega) (by omega) (ib_h s hs).2.2.2.1).trans (ib_h s hs).2.2.2.2
  · exact (H _ _ (by omega) (by omega) z1.1).trans z1.2
  · exact (H _ _ (by omega) (by omega) z2.1).trans z2.2
  · exact (H _ _ (by omega) (by omega) z3.1).trans z3.2
  · exact (H _ _ (by omega) (by omega) z4.1).trans z4.2
  · exact (H _ _ (by omega) (by omega) z5.1).trans z5.2
end BEG
