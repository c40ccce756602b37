/-! FROM THE ENTRY TO THE LOOP -/
section ENT
variable {d : Nat} {E : pEv} {r : Nat → Nat → Int32} {Q : Option Value → pH → Prop}
theorem evM_dd : ∀ (d d' n mm : Nat) (as : List Value) (h : pH) (r : Option Value × pH), d ≤ d' → evM d n mm as h = some r → evM d' n mm as h = some r := by
  intro d
  induction d with
  | zero => intro d' n mm as h r _ q; cases q
  | succ d ih =>
    intro d' n mm as h r hd q
    obtain ⟨c, rfl⟩ : ∃ c, d' = c + 1 := ⟨d' - 1, by omega⟩
    unfold evM at q ⊢
    split at q
    · rename_i hc
      rw [if_pos hc]
      exact run_mono (fun mm as h r q => ih c n mm as h r (by omega) q) n n _ r (Nat.le_refl n) q
    · cases q
theorem lw_ent {N : Nat} {xs : Nat → Int32} : wG d 256 (0, inL 256 [.ref 9], [], phi N xs h_b) Q = wX d kPB [.ref 10] (pAl (phi N xs h_b) (.inl 9) 9) (fun v h' => wG d 256 (7, inL 256 [.ref 9], v.toList ++ [.ref 10], h') Q) := by
  refine (wG_s rfl (fun cf => rfl)).trans ?_
  refine (wG_s rfl (fun cf => rfl)).trans ?_
  exact wG_c rfl (fun cf => rfl)
theorem lw_en2 {h : pH} {v : Option Value} (h2 : h.1 = (101, 2440)) (L : List Value) (hL : L = inL 256 [.ref 9]) : wG d 256 (7, L, [.ref 10], h) Q = wX d kPM [.ref 101] (pAl h (.inl 10) 25) (fun v h' => wG d 256 (15, [.ref 9, .ref 10, .retAddr 0, .retAddr 0], v.toList ++ [.ref 101], h') Q) := by
  subst hL
  obtain ⟨⟨a, b⟩, s, rf, it⟩ := h
  cases h2
  refine (wG_s rfl (fun cf => rfl)).trans ?_
  refine (wG_s rfl (fun cf => rfl)).trans ?_
  refine (wG_s rfl (fun cf => rfl)).trans ?_
  exact wG_c rfl (fun cf => rfl)
theorem lw_en3 {h : pH} : wG d 256 (15, [.ref 9, .ref 10, .retAddr 0, .retAddr 0], [.ref 101], h) Q = wG d 256 (18, [.ref 9, .ref 10, .ref 101, .int (nI 0)], [], h) Q := by
  refine (wG_s rfl (fun cf => rfl)).trans ?_
  refine (wG_s rfl (fun cf => rfl)).trans ?_
  exact wG_s rfl (fun cf => rfl)
end ENT
