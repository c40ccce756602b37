/-! HOW IT BEGINS -/
section BEG
variable {d : Nat} {E : pEv} {r : Nat → Nat → Int32}
def t0B : Th := fun a _ => if a = 11 then 1 else 0
def X0B : Tx := fun _ => (fun _ => 0, 0)
theorem ib_t : (szB 11 = 12 ∧ iB 11 7 = 0 ∧ iB 11 8 = 1 ∧ iB 11 9 = 0 ∧ iB 11 10 = 0 ∧ iB 11 11 = 1) ∧ (∀ i, i < 7 → 0 < szB (13 + i) ∧ iB (13 + i) 0 = nI i ∧ 0 < szB (40 + i) ∧ iB (40 + i) 0 = nI i) := by decide +kernel
end BEG
