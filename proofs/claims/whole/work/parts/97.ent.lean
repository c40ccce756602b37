/-! FROM THE ENTRY TO THE LOOP -/
section ENT
variable {d : Nat} {E : pEv} {r : Nat → Nat → Int32} {Q : Option Value → pH → Prop}
theorem evM_dd : ∀ (d d' n mm : Nat) (as : List Value) (h : pH) (r : Option Value × pH), d ≤ d' → evM d n mm as h = some r → evM d' n mm as h = some r := by
  intro d
  induction d with
  | zero => intro d' n mm as h r _ q; cases q
  | succ d ih =>
    intro d' n mm as h r hd q
    obtain ⟨c, rfl⟩ : ∃ c, d' = c + 1 := ⟨d' - 1, by omega⟩
    unfold evM at q ⊢
    split at q
    · rename_i hc
      rw [if_pos hc]
      exact run_mono (fun mm as h r q => ih c n mm as h r (by omega) q) n n _ r (Nat.le_refl n) q
    · cases q
theorem lw_ent {N : Nat} {xs : Nat → Int32} : wG d 256 (0, inL 256 [.ref 9], [], phi N xs h_b) Q = wX d kPB [.ref 10] (pAl (phi N xs h_b) (.inl 9) 9) (fun v h' => wG d 256 (7, inL 256 [.ref 9], v.toList ++ [.ref 10], h') Q) := by
  refine (wG_s rfl (fun cf => rfl)).trans ?_
  refine (wG_s rfl (fun cf => rfl)).trans ?_
  exact wG_c rfl (fun cf => rfl)
end ENT
