/-! FROM THE ENTRY TO THE LOOP -/
section ENT
variable {d : Nat} {E : pEv} {r : Nat → Nat → Int32} {Q : Option Value → pH → Prop}
theorem evM_dd : ∀ (d d' n mm : Nat) (as : List Value) (h : pH) (r : Option Value × pH), d ≤ d' → evM d n mm as h = some r → evM d' n mm as h = some r := by
  intro d
  induction d with
  | zero => intro d' n mm as h r _ q; cases q
  | succ d ih =>
    intro d' n mm as h r hd q
    obtain ⟨c, rfl⟩ : ∃ c, d' = c + 1 := ⟨d' - 1, by omega⟩
    unfold evM at q ⊢
    split at q
    · rename_i hc
      rw [if_pos hc]
      exact run_mono (fun mm as h r q => ih c n mm as h r (by omega) q) n n _ r (Nat.le_refl n) q
    · cases q
theorem lw_ent {N : Nat} {xs : Nat → Int32} : wG d 258 (0, inL 258 [.ref 9], [], phi N xs h_b) Q = wX d kPB [.ref 10] (pAl (phi N xs h_b) (.inl 9) 9) (fun v h' => wG d 258 (7, inL 258 [.ref 9], v.toList ++ [.ref 10], h') Q) := by
  refine (wG_s rfl (fun cf => rfl)).trans ?_
  refine (wG_s rfl (fun cf => rfl)).trans ?_
  exact wG_c rfl (fun cf => rfl)
theorem lw_en2 {h : pH} (h2 : h.1 = (101, 2440)) (L : List Value) (hL : L = inL 258 [.ref 9]) : wG d 258 (7, L, [.ref 10], h) Q = wX d kPM [.ref 101] (pAl h (.inl 10) 25) (fun v h' => wG d 258 (15, [.ref 9, .ref 10, .retAddr 0, .retAddr 0], v.toList ++ [.ref 101], h') Q) := by
  subst hL
  obtain ⟨⟨a, b⟩, s, rf, it⟩ := h
  cases h2
  refine (wG_s rfl (fun cf => rfl)).trans ?_
  refine (wG_s rfl (fun cf => rfl)).trans ?_
  refine (wG_s rfl (fun cf => rfl)).trans ?_
  exact wG_c rfl (fun cf => rfl)
theorem lw_en3 {h : pH} : wG d 258 (15, [.ref 9, .ref 10, .retAddr 0, .retAddr 0], [.ref 101], h) Q = wG d 258 (18, [.ref 9, .ref 10, .ref 101, .int (nI 0)], [], h) Q := by
  refine (wG_s rfl (fun cf => rfl)).trans ?_
  refine (wG_s rfl (fun cf => rfl)).trans ?_
  exact wG_s rfl (fun cf => rfl)
theorem nin_alG {h : pH} {s : pSh} {sl : Nat} (hp : nin h) (h1 : ∀ ci, s = .inl ci → ci < 11) (h2 : ∀ t nn, s = .inr (t, nn) → t ≠ 1) : nin (pAl h s sl) := by
  refine ⟨?_, hp.2.al h1 h2⟩
  have hc : 10 ≤ h.1.1 := hp.2.1
  have e : (pAl h s sl).2.1 9 = h.2.1 9 := up_n (by omega)
  exact e.trans hp.1
theorem lw_total {N : Nat} (hN : N ≤ 3072) (xs : Nat → Int32) : ∃ (n : Nat) (hf : pH), run (evM 80 n) 258 n (0, inL 258 [.ref 9], [], h_0 N xs) = some (some (.int 1), hf) ∧ hf.1.1 ≤ 600000 ∧ hf.1.2 ≤ 7302250 := by
  obtain ⟨m1, m2, m3, m4, m5⟩ := mk_all
  obtain ⟨h, e1, e2, e3⟩ := mk_start
  obtain ⟨e4, s_E⟩ := e2 N xs
  have nb := h_bnin
  have hI : Inv (uI h.2.2.2 9 0 0) := Inv_0 (fun i q h1 h2 h3 => (uI_o (by omega)).trans (e3 i q h1 h2 h3))
  obtain ⟨rz, e5⟩ := lw_all (d := 10) (E := (N, xs, h.2.2.1)) s_E hN 600 0 _ (by show N ≤ 0 + 6 * 600; omega) (by omega) hI
  -- the goal as wG
  have key : wG 80 258 (0, inL 258 [.ref 9], [], h_0 N xs) (fun v h' => v = some (.int 1) ∧ h'.1 = (116, 3331)) := by
    rw [← h_bphi]
    refine (lw_ent (d := 80)).mpr ?_
    have p1 := phi_evM (N := N) (xs := xs) 8 3000 kPB [.ref 10] _ _ _ m1 (nin_alG nb (fun ci q => by cases q; decide) (fun t nn q => by cases q))
    rw [ph_al nb] at p1
    refine ⟨3000, none, phi N xs h_c1, evM_dd 8 80 3000 _ _ _ _ (by omega) p1, ?_⟩
    have hc1 : (phi N xs h_c1).1 = (101, 2440) := m2
    refine (lw_en2 (d := 80) hc1 _ rfl).mpr ?_
    have n0 := nin_alG (s := .inl 9) (sl := 9) nb (fun ci q => by cases q; decide) (fun t nn q => by cases q)
    have nc1 : nin h_c1 := nin_of n0 (evM_pure _ _ _ _ _ _ _ m1 n0.2)
    have p2 := phi_evM (N := N) (xs := xs) 8 3000 kPM [.ref 101] _ _ _ e1 (nin_alG nc1 (fun ci q => by cases q; decide) (fun t nn q => by cases q))
    rw [ph_al nc1] at p2
    refine ⟨3000, none, phi N xs h, evM_dd 8 80 3000 _ _ _ _ (by omega) p2, ?_⟩
    refine (lw_en3 (d := 80)).mpr ?_
    rw [e4]
    exact (e5 _).mpr ⟨rfl, rfl⟩
  obtain ⟨n, v, h', hr, hv, hh⟩ := key
  refine ⟨n, h', ?_, ?_, ?_⟩
  · rw [hr, hv]
  · rw [hh]; decide
  · rw [hh]; decide
end ENT
