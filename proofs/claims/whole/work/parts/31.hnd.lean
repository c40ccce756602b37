section HH
variable {d : Nat} {E : pEv} {ro : Nat → Nat → Int32} {Q : Option Value → pH → Prop} {t : Th}
/-- where a scene's prop is taken and left -/
def bg (t : Th) (s : Nat) : Nat := if t.b = 1 then t.G s else t.F s
def en (t : Th) (s : Nat) : Nat := if t.b = 1 then t.F s else t.G s
/-- one scene more: hands, and where each prop lies -/
def hs1 (t : Th) (s : Nat) (a : Nat × (Nat → Int32)) : Nat × (Nat → Int32) :=
  if t.P s = 4 then a else (a.1 + (if a.2 (t.P s) < 0 then 0 else if a.2 (t.P s) = nI (bg t s) then 0 else 1), fun j => if j = t.P s then nI (en t s) else a.2 j)
def hsR (t : Th) (o : Nat → Nat) : Nat × (Nat → Int32) := it (fun k a => hs1 t (o k) a) t.n 0 (0, fun _ => -1)
theorem fR_u {a s k : Nat} {g : Nat → Int32} {v : Int32} (h : k < s) : uI (fR ro a s g) a k v = fR ro a s (fun j => if j = k then v else g j) := by
  funext b j
  rw [uI_at]
  unfold fR
  by_cases hb : b = a
  · by_cases hj : j = k
    · subst hj; simp [hb, h]
    · simp [hb, hj]
  · simp [hb]
theorem fR_at {a s k : Nat} {g : Nat → Int32} (h : k < s) : fR ro a s g a k = g k := by
  unfold fR
  rw [if_pos ⟨rfl, h⟩]
theorem fR_o {a s b : Nat} {g : Nat → Int32} (h : b ≠ a) : fR ro a s g b = ro b := by
  funext k
  unfold fR
  rw [if_neg (fun q => h q.1)]
theorem tC_21 (ok : tOK t) (hC : tC t ro) {s : Nat} {g : Nat → Int32} : tC t (fR ro 21 s g) := hC.fr ok.n (fun a ha => fR_o (by omega))
theorem b_e (ok : tOK t) : (nI t.b = 1) = (t.b = 1) := propext (nI_eq (b := 1) (by have := ok.b; omega) (by decide))
theorem x_X2_hands (s_E : oE E) (ok : tOK t) (hC : tC t ro) : wX (d + 3) 37 [.ref 11] (mkH E ro) Q = Q (some (.int (nI (hsR t t.o).1))) (mkH E (fR ro 21 4 (hsR t t.o).2)) := by
  have hn := ok.n
  refine (en_X2_hands (d := d + 2) s_E).trans ?_
  refine (x_X4_changeAll (d := d) (c_h0 := 4) s_E (oR rfl) ⟨hC.sp, by decide, by decide⟩).trans ?_
  refine (sg_X2_hands_8 (d := d + 2) s_E).trans ?_
  have key : ∀ k i (a : Nat × (Nat → Int32)) v3 v4, i + k = t.n → wG (d + 2) 37 (12, [.ref 11, .int (nI a.1), .int (nI i), v3, v4], [], mkH E (fR ro 21 4 a.2)) Q = Q (some (.int (nI (it (fun k a => hs1 t (t.o k) a) k i a).1))) (mkH E (fR ro 21 4 (it (fun k a => hs1 t (t.o k) a) k i a).2)) := by
    intro k
    induction k with
    | zero =>
      intro i a v3 v4 hi
      have hC' := tC_21 (s := 4) (g := a.2) ok hC
      rw [sg_X2_hands_12 s_E, hC'.n, if_neg (nI_nlt (by omega) (by omega))]
      rfl
    | succ k ih =>
      intro i a v3 v4 hi
      have hit : i < t.n := by omega
      have ho := ok.o i hit
      have h7 : t.o i < 7 := by omega
      have hC' := tC_21 (s := 4) (g := a.2) ok hC
      rw [sg_X2_hands_12 s_E, hC'.n, if_pos (nI_lt hit (by omega))]
      refine (x_X4_at (d := d + 1) (c_h0 := 7) s_E (oR rfl)).trans ?_
      rw [at_in (rK32 ok hC') hit, hC'.o i hit]
      refine (sg_X2_hands_29 (d := d + 2) s_E).trans ?_
      refine (x_X2_at (d := d + 1) s_E oP11).trans ?_
      rw [sc_at h7]
      refine (sg_X2_hands_32 (d := d + 2) s_E (oS11 h7)).trans ?_
      have hP := ok.P (t.o i) ho
      have e4 : (nI (t.P (t.o i)) = 4) = (t.P (t.o i) = 4) := propext (nI_eq (b := 4) (by omega) (by decide))
      rw [hC'.P (t.o i) ho]
      simp only [e4]
      show _ = Q (some (.int (nI (it (fun k a => hs1 t (t.o k) a) k (i + 1) (hs1 t (t.o i) a)).1))) (mkH E (fR ro 21 4 (it (fun k a => hs1 t (t.o k) a) k (i + 1) (hs1 t (t.o i) a)).2))
      by_cases h4 : t.P (t.o i) = 4
      · rw [if_pos h4, ← nI_succ]
        have e : hs1 t (t.o i) a = a := by unfold hs1; rw [if_pos h4]
        rw [e]
        exact ih (i + 1) a _ _ (by omega)
      · rw [if_neg h4]
        have hp4 : t.P (t.o i) < 4 := by omega
        have hk20 : rK (fR ro 21 4 a.2) 20 4 4 := ⟨hC'.sp, by decide, by decide⟩
        have rest : ∀ (m : Nat) v4, wG (d + 2) 37 (81, [.ref 11, .int (nI a.1), .int (nI i), .ref (13 + t.o i), .int v4], [.int (nI m), .int (nI a.1)], mkH E (fR ro 21 4 a.2)) Q = wG (d + 2) 37 (12, [.ref 11, .int (nI (a.1 + m)), .int (nI (i + 1)), .ref (13 + t.o i), .int v4], [], mkH E (fR ro 21 4 (fun j => if j = t.P (t.o i) then nI (en t (t.o i)) else a.2 j))) Q := by
          intro m v4
          refine (sg_X2_hands_81 (d := d + 2) s_E (oS11 h7)).trans ?_
          refine (x_X5_endsAt (d := d + 1) s_E (oS11 h7)).trans ?_
          refine (sg_X2_hands_99 (d := d + 2) s_E (oS11 h7)).trans ?_
          refine (x_X4_change (d := d + 1) (c_h0 := 4) s_E (oR rfl)).trans ?_
          refine (sg_X2_hands_102 (d := d + 2) s_E (oS11 h7)).trans ?_
          rw [hC'.P _ ho, change_in hk20 hp4, fR_u hp4, nI_add, ← nI_succ]
          have e : f_X5_endsAt (fR ro 21 4 a.2) (13 + t.o i) (fR ro 21 4 a.2 11 8) = nI (en t (t.o i)) := by
            unfold f_X5_endsAt en
            rw [hC'.b, hC'.F _ ho hp4, hC'.G _ ho hp4]
            simp only [b_e ok]
            split <;> rfl
          rw [e]
        refine (x_X4_at (d := d + 1) (c_h0 := 4) s_E (oR rfl)).trans ?_
        rw [at_in hk20 hp4, fR_at hp4]
        refine (sg_X2_hands_52 (d := d + 2) s_E (oS11 h7)).trans ?_
        have e : hs1 t (t.o i) a = (a.1 + (if a.2 (t.P (t.o i)) < 0 then 0 else if a.2 (t.P (t.o i)) = nI (bg t (t.o i)) then 0 else 1), fun j => if j = t.P (t.o i) then nI (en t (t.o i)) else a.2 j) := by unfold hs1; rw [if_neg h4]
        have tr0 : f_X9_truth 0 = nI 0 := by decide
        have tr1 : f_X9_truth 1 = nI 1 := by decide
        rw [e]
        by_cases h5 : a.2 (t.P (t.o i)) < 0
        · rw [if_pos h5, if_pos h5]
          refine (x_X9_truth (d := d + 1) s_E).trans ?_
          rw [tr0]
          refine (rest 0 _).trans ?_
          exact ih (i + 1) (a.1 + 0, fun j => if j = t.P (t.o i) then nI (en t (t.o i)) else a.2 j) _ _ (by omega)
        · rw [if_neg h5, if_neg h5]
          refine (x_X5_beginsAt (d := d + 1) s_E (oS11 h7)).trans ?_
          refine (sg_X2_hands_70 (d := d + 2) s_E (oS11 h7)).trans ?_
          have eb : f_X5_beginsAt (fR ro 21 4 a.2) (13 + t.o i) (fR ro 21 4 a.2 11 8) = nI (bg t (t.o i)) := by
            unfold f_X5_beginsAt bg
            rw [hC'.b, hC'.F _ ho hp4, hC'.G _ ho hp4]
            simp only [b_e ok]
            split <;> rfl
          rw [eb]
          by_cases h6 : a.2 (t.P (t.o i)) = nI (bg t (t.o i))
          · rw [if_pos h6, if_pos h6]
            refine (x_X9_truth (d := d + 1) s_E).trans ?_
            rw [tr0]
            refine (rest 0 _).trans ?_
            exact ih (i + 1) (a.1 + 0, fun j => if j = t.P (t.o i) then nI (en t (t.o i)) else a.2 j) _ _ (by omega)
          · rw [if_neg h6, if_neg h6]
            refine (x_X9_truth (d := d + 1) s_E).trans ?_
            rw [tr1]
            refine (rest 1 _).trans ?_
            exact ih (i + 1) (a.1 + 1, fun j => if j = t.P (t.o i) then nI (en t (t.o i)) else a.2 j) _ _ (by omega)
  exact key t.n 0 (0, fun _ => -1) _ _ (by omega)
end HH
