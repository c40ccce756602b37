/-! one number changed -/
def Th.up (t : Th) (f i v : Nat) : Th := fun a b => if a = f ∧ b = i then v else t a b
section UP
variable {d : Nat} {E : pEv} {ro : Nat → Nat → Int32} {Q : Option Value → pH → Prop} {t : Th} {v : Nat}
theorem tOK_b (ok : tOK t) (hv : v ≤ 1) : tOK (t.up 11 0 v) := ⟨ok.n, ok.K, ok.M, ok.C, ok.T, ok.A, ok.P, ok.F, ok.G, ok.W, ok.o, ok.oi, hv⟩
theorem tC_b (ok : tOK t) (hC : tC t ro) : tC (t.up 11 0 v) (uI ro 11 8 (nI v)) := by
  have e : ∀ a k, a ≠ 11 ∨ k ≠ 8 → uI ro 11 8 (nI v) a k = ro a k := fun a k h => by rw [uI_at, if_neg (by omega)]
  refine ⟨?_, ?_, ?_, ?_, ?_, ?_, ?_, ?_, ?_, ?_, ?_, ?_, ?_, ?_, ?_⟩
  · rw [e _ _ (by omega)]; exact hC.n
  · intro i hi; rw [e _ _ (by omega)]; exact hC.N i hi
  · intro i hi; rw [e _ _ (by omega)]; exact hC.K i hi
  · intro i hi; rw [e _ _ (by omega)]; exact hC.M i hi
  · intro i hi; rw [e _ _ (by omega)]; exact hC.C i hi
  · intro i hi; rw [e _ _ (by omega)]; exact hC.T i hi
  · intro i hi; rw [e _ _ (by omega)]; exact hC.A i hi
  · intro i hi; rw [e _ _ (by omega)]; exact hC.P i hi
  · intro i hi hp; rw [e _ _ (by omega)]; exact hC.F i hi hp
  · intro i hi hp; rw [e _ _ (by omega)]; exact hC.G i hi hp
  · intro i hi; rw [e _ _ (by omega)]; exact hC.W i hi
  · rw [e _ _ (by omega)]; exact hC.o1
  · intro i hi; rw [e _ _ (by omega)]; exact hC.o i hi
  · rw [uI_at, if_pos ⟨rfl, rfl⟩]; rfl
  · rw [e _ _ (by omega)]; exact hC.sp
end UP
