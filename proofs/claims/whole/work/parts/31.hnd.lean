section HH
variable {d : Nat} {E : pEv} {ro : Nat → Nat → Int32} {Q : Option Value → pH → Prop} {t : Th}
/-- where a scene's prop is taken and left -/
def bg (t : Th) (s : Nat) : Nat := if t.b = 1 then t.G s else t.F s
def en (t : Th) (s : Nat) : Nat := if t.b = 1 then t.F s else t.G s
/-- one scene more: hands, and where each prop lies -/
def hs1 (t : Th) (s : Nat) (a : Nat × (Nat → Int32)) : Nat × (Nat → Int32) :=
  if t.P s = 4 then a else (a.1 + (if a.2 (t.P s) < 0 then 0 else if a.2 (t.P s) = nI (bg t s) then 0 else 1), fun j => if j = t.P s then nI (en t s) else a.2 j)
def hsR (t : Th) (o : Nat → Nat) : Nat × (Nat → Int32) := it (fun k a => hs1 t (o k) a) t.n 0 (0, fun _ => -1)
theorem fR_u {a s k : Nat} {g : Nat → Int32} {v : Int32} (h : k < s) : uI (fR ro a s g) a k v = fR ro a s (fun j => if j = k then v else g j) := by
  funext b j
  rw [uI_at]
  unfold fR
  by_cases hb : b = a
  · by_cases hj : j = k
    · subst hj; simp [hb, h]
    · simp [hb, hj]
  · simp [hb]
theorem fR_at {a s k : Nat} {g : Nat → Int32} (h : k < s) : fR ro a s g a k = g k := by
  unfold fR
  rw [if_pos ⟨rfl, h⟩]
theorem fR_o {a s b : Nat} {g : Nat → Int32} (h : b ≠ a) : fR ro a s g b = ro b := by
  funext k
  unfold fR
  rw [if_neg (fun q => h q.1)]
theorem tC_21 (ok : tOK t) (hC : tC t ro) {s : Nat} {g : Nat → Int32} : tC t (fR ro 21 s g) := hC.fr ok.n (fun a ha => fR_o (by omega))
theorem b_e (ok : tOK t) : (nI t.b = 1) = (t.b = 1) := propext (nI_eq (b := 1) (by have := ok.b; omega) (by decide))
theorem x_X2_hands (s_E : oE E) (ok : tOK t) (hC : tC t ro) : wX (d + 3) 37 [.ref 11] (mkH E ro) Q = Q (some (.int (nI (hsR t t.o).1))) (mkH E (fR ro 21 4 (hsR t t.o).2)) := by
  have hn := ok.n
  refine (en_X2_hands (d := d + 2) s_E).trans ?_
  refine (x_X4_changeAll (d := d) (c_h0 := 4) s_E (oR rfl) ⟨hC.sp, by decide, by decide⟩).trans ?_
  refine (sg_X2_hands_8 (d := d + 2) s_E).trans ?_
  have key : ∀ k i (a : Nat × (Nat → Int32)) v3 v4, i + k = t.n → wG (d + 2) 37 (12, [.ref 11, .int (nI a.1), .int (nI i), v3, v4], [], mkH E (fR ro 21 4 a.2)) Q = Q (some (.int (nI (it (fun k a => hs1 t (t.o k) a) k i a).1))) (mkH E (fR ro 21 4 (it (fun k a => hs1 t (t.o k) a) k i a).2)) := by
    intro k
    induction k with
    | zero =>
      intro i a v3 v4 hi
      have hC' := tC_21 (s := 4) (g := a.2) ok hC
      rw [sg_X2_hands_12 s_E, hC'.n, if_neg (nI_nlt (by omega) (by omega))]
      rfl
    | succ k ih =>
      intro i a v3 v4 hi
      have hit : i < t.n := by omega
      have ho := ok.o i hit
      have h7 : t.o i < 7 := by omega
      have hC' := tC_21 (s := 4) (g := a.2) ok hC
      rw [sg_X2_hands_12 s_E, hC'.n, if_pos (nI_lt hit (by omega))]
      refine (x_X4_at (d := d + 1) (c_h0 := 7) s_E (oR rfl)).trans ?_
      rw [at_in (rK32 ok hC') hit, hC'.o i hit]
      refine (sg_X2_hands_29 (d := d + 2) s_E).trans ?_
      refine (x_X2_at (d := d + 1) s_E oP11).trans ?_
      rw [sc_at h7]
      refine (sg_X2_hands_32 (d := d + 2) s_E (oS11 h7)).trans ?_
      have hP := ok.P (t.o i) ho
      have e4 : (nI (t.P (t.o i)) = 4) = (t.P (t.o i) = 4) := propext (nI_eq (b := 4) (by omega) (by decide))
      rw [hC'.P (t.o i) ho]
      simp only [e4]
      show _ = Q (some (.int (nI (it (fun k a => hs1 t (t.o k) a) k (i + 1) (hs1 t (t.o i) a)).1))) (mkH E (fR ro 21 4 (it (fun k a => hs1 t (t.o k) a) k (i + 1) (hs1 t (t.o i) a)).2))
      by_cases h4 : t.P (t.o i) = 4
      · rw [if_pos h4, ← nI_succ]
        have e : hs1 t (t.o i) a = a := by unfold hs1; rw [if_pos h4]
        rw [e]
        exact ih (i + 1) a _ _ (by omega)
      · rw [if_neg h4]
        have hp4 : t.P (t.o i) < 4 := by omega
        have hk20 : rK (fR ro 21 4 a.2) 20 4 4 := ⟨hC'.sp, by decide, by decide⟩
        have rest : ∀ (m : Nat) v4, wG (d + 2) 37 (81, [.ref 11, .int (nI a.1), .int (nI i), .ref (13 + t.o i), .int v4], [.int (nI m), .int (nI a.1)], mkH E (fR ro 21 4 a.2)) Q = wG (d + 2) 37 (12, [.ref 11, .int (nI (a.1 + m)), .int (nI (i + 1)), .ref (13 + t.o i), .int v4], [], mkH E (fR ro 21 4 (fun j => if j = t.P (t.o i) then nI (en t (t.o i)) else a.2 j))) Q := by
          intro m v4
          refine (sg_X2_hands_81 (d := d + 2) s_E (oS11 h7)).trans ?_
          refine (x_X5_endsAt (d := d + 1) s_E (oS11 h7)).trans ?_
          refine (sg_X2_hands_99 (d := d + 2) s_E (oS11 h7)).trans ?_
          refine (x_X4_change (d := d + 1) (c_h0 := 4) s_E (oR rfl)).trans ?_
          refine (sg_X2_hands_102 (d := d + 2) s_E (oS11 h7)).trans ?_
          rw [hC'.P _ ho, change_in hk20 hp4, fR_u hp4, nI_add, ← nI_succ]
          have e : f_X5_endsAt (fR ro 21 4 a.2) (13 + t.o i) (fR ro 21 4 a.2 11 8) = nI (en t (t.o i)) := by
            unfold f_X5_endsAt en
            rw [hC'.b, hC'.F _ ho hp4, hC'.G _ ho hp4]
            simp only [b_e ok]
            split <;> rfl
          rw [e]
        refine (x_X4_at (d := d + 1) (c_h0 := 4) s_E (oR rfl)).trans ?_
        rw [at_in hk20 hp4, fR_at hp4]
        refine (sg_X2_hands_52 (d := d + 2) s_E (oS11 h7)).trans ?_
        have e : hs1 t (t.o i) a = (a.1 + (if a.2 (t.P (t.o i)) < 0 then 0 else if a.2 (t.P (t.o i)) = nI (bg t (t.o i)) then 0 else 1), fun j => if j = t.P (t.o i) then nI (en t (t.o i)) else a.2 j) := by unfold hs1; rw [if_neg h4]
        have tr0 : f_X9_truth 0 = nI 0 := by decide
        have tr1 : f_X9_truth 1 = nI 1 := by decide
        rw [e]
        by_cases h5 : a.2 (t.P (t.o i)) < 0
        · rw [if_pos h5, if_pos h5]
          refine (x_X9_truth (d := d + 1) s_E).trans ?_
          rw [tr0]
          refine (rest 0 _).trans ?_
          exact ih (i + 1) (a.1 + 0, fun j => if j = t.P (t.o i) then nI (en t (t.o i)) else a.2 j) _ _ (by omega)
        · rw [if_neg h5, if_neg h5]
          refine (x_X5_beginsAt (d := d + 1) s_E (oS11 h7)).trans ?_
          refine (sg_X2_hands_70 (d := d + 2) s_E (oS11 h7)).trans ?_
          have eb : f_X5_beginsAt (fR ro 21 4 a.2) (13 + t.o i) (fR ro 21 4 a.2 11 8) = nI (bg t (t.o i)) := by
            unfold f_X5_beginsAt bg
            rw [hC'.b, hC'.F _ ho hp4, hC'.G _ ho hp4]
            simp only [b_e ok]
            split <;> rfl
          rw [eb]
          by_cases h6 : a.2 (t.P (t.o i)) = nI (bg t (t.o i))
          · rw [if_pos h6, if_pos h6]
            refine (x_X9_truth (d := d + 1) s_E).trans ?_
            rw [tr0]
            refine (rest 0 _).trans ?_
            exact ih (i + 1) (a.1 + 0, fun j => if j = t.P (t.o i) then nI (en t (t.o i)) else a.2 j) _ _ (by omega)
          · rw [if_neg h6, if_neg h6]
            refine (x_X9_truth (d := d + 1) s_E).trans ?_
            rw [tr1]
            refine (rest 1 _).trans ?_
            exact ih (i + 1) (a.1 + 1, fun j => if j = t.P (t.o i) then nI (en t (t.o i)) else a.2 j) _ _ (by omega)
  exact key t.n 0 (0, fun _ => -1) _ _ (by omega)
end HH
section HM
variable {d : Nat} {E : pEv} {ro : Nat → Nat → Int32} {Q : Option Value → pH → Prop} {t : Th}
theorem tM_o (hM : tM t ro) {a s : Nat} {g : Nat → Int32} (ha : a ≠ 102) : tM t (fR ro a s g) := hM.fr (fR_o (by omega))
theorem ix_n {i n : Nat} (h : i < n) (hn : n < 1000) : ¬ nI i < 0 ∧ (nI i).toNatClampNeg < n := ⟨nI_pos (by omega), by rw [nI_clamp (by omega)]; exact h⟩
/-- the row that the model looks at -/
def rW (t : Th) (r : Nat → Nat) (ro : Nat → Nat → Int32) : Prop := ∀ k, k < t.n → ro 106 k = nI (r k) ∧ r k < t.n
theorem x_X10_handsOfRow (s_E : oE E) (ok : tOK t) (hM : tM t ro) {r : Nat → Nat} (hr : rW t r ro) : wX (d + 2) 192 [.ref 101] (mkH E ro) Q = Q (some (.int (nI (hsR t r).1))) (mkH E (fR ro 108 4 (hsR t r).2)) := by
  have hn := ok.n
  refine (en_X10_handsOfRow (d := d + 1) s_E).trans ?_
  have first : ∀ k v, k < 4 → wG (d + 1) 192 (2, [.ref 101, .int (nI k), .retAddr 0, .retAddr 0, .retAddr 0], [], mkH E (fR ro 108 k (fun _ => -1))) v = wG (d + 1) 192 (2, [.ref 101, .int (nI (k + 1)), .retAddr 0, .retAddr 0, .retAddr 0], [], mkH E (fR ro 108 (k + 1) (fun _ => -1))) v := by
    intro k v hk
    refine (sg_X10_handsOfRow_2 s_E (fun _ => ix_n hk (by decide))).trans ?_
    rw [if_pos (show nI k < (4 : Int32) from @nI_lt k 4 hk (by decide)), nI_clamp (by omega), ← nI_succ]
    rw [show (uI (fR ro 108 k (fun _ => -1)) 108 k (-1)) = fR ro 108 (k + 1) (fun _ => -1) from fR_s (g := fun _ => -1)]
  have f0 : fR ro 108 0 (fun _ => -1) = ro := fR_0
  have s0 := first 0 Q (by decide)
  rw [f0] at s0
  refine s0.trans ?_
  refine (first 1 Q (by decide)).trans ?_
  refine (first 2 Q (by decide)).trans ?_
  refine (first 3 Q (by decide)).trans ?_
  refine (sg_X10_handsOfRow_2 s_E (fun h => absurd h (by decide))).trans ?_
  rw [if_neg (show ¬ nI (3 + 1) < (4 : Int32) from by decide)]
  have key : ∀ k i (a : Nat × (Nat → Int32)) v3 v4, i + k = t.n → wG (d + 1) 192 (24, [.ref 101, .int (nI a.1), .int (nI i), v3, v4], [], mkH E (fR ro 108 4 a.2)) Q = Q (some (.int (nI (it (fun k a => hs1 t (r k) a) k i a).1))) (mkH E (fR ro 108 4 (it (fun k a => hs1 t (r k) a) k i a).2)) := by
    intro k
    induction k with
    | zero =>
      intro i a v3 v4 hi
      have hM' := tM_o (a := 108) (s := 4) (g := a.2) hM (by decide)
      have hlt : ¬ nI i < nI t.n := nI_nlt (by omega) (by omega)
      refine (sg_X10_handsOfRow_24 s_E (fun h => absurd (hM'.n ▸ h) hlt)).trans ?_
      rw [hM'.n, if_neg hlt]
      rfl
    | succ k ih =>
      intro i a v3 v4 hi
      have hit : i < t.n := by omega
      have hr1 := hr i hit
      have h7 : r i < 7 := by omega
      have hM' := tM_o (a := 108) (s := 4) (g := a.2) hM (by decide)
      have e106 : fR ro 108 4 a.2 106 i = nI (r i) := by rw [fR_o (by decide)]; exact hr1.1
      have hix := ix_n (show i < 7 by omega) (by decide)
      refine (sg_X10_handsOfRow_24 s_E (fun _ => hix)).trans ?_
      rw [hM'.n, if_pos (nI_lt hit (by omega)), nI_clamp (by omega), e106]
      refine (x_its (w := 5) s_E h7 (by decide)).trans ?_
      have hP := ok.P (r i) hr1.2
      rw [hM'.P _ hr1.2]
      refine (sg_X10_handsOfRow_45 s_E (fun _ => hix)).trans ?_
      have e4 : (nI (t.P (r i)) < 4) = (t.P (r i) < 4) := propext (nI_ltI (b := 4) (by omega) (by decide))
      simp only [e4]
      rw [hM'.b, nI_clamp (by omega), e106, ← nI_succ]
      simp only [b_e ok]
      show _ = Q (some (.int (nI (it (fun k a => hs1 t (r k) a) k (i + 1) (hs1 t (r i) a)).1))) (mkH E (fR ro 108 4 (it (fun k a => hs1 t (r k) a) k (i + 1) (hs1 t (r i) a)).2))
      by_cases h4 : t.P (r i) < 4
      · rw [if_pos h4]
        have e : hs1 t (r i) a = (a.1 + (if a.2 (t.P (r i)) < 0 then 0 else if a.2 (t.P (r i)) = nI (bg t (r i)) then 0 else 1), fun j => if j = t.P (r i) then nI (en t (r i)) else a.2 j) := by unfold hs1; rw [if_neg (by omega)]
        rw [e]
        have hix4 := ix_n h4 (by decide)
        have rest : ∀ (m : Nat) (x : Int32), (if t.b = 1 then wX (d + 1) 157 [.ref 101, .int (nI (r i)), .int 6] (mkH E (fR ro 108 4 a.2)) (fun v h' => wG (d + 1) 192 (140, [.ref 101, .int (nI a.1 + nI m), .int (nI i), .int (nI (t.P (r i))), .int x], pv v [.int (nI (t.P (r i))), .ref 108], h') Q) else wX (d + 1) 157 [.ref 101, .int (nI (r i)), .int 7] (mkH E (fR ro 108 4 a.2)) (fun v h' => wG (d + 1) 192 (140, [.ref 101, .int (nI a.1 + nI m), .int (nI i), .int (nI (t.P (r i))), .int x], pv v [.int (nI (t.P (r i))), .ref 108], h') Q)) = wG (d + 1) 192 (24, [.ref 101, .int (nI (a.1 + m)), .int (nI (i + 1)), .int (nI (t.P (r i))), .int x], [], mkH E (fR ro 108 4 (fun j => if j = t.P (r i) then nI (en t (r i)) else a.2 j))) Q := by
          intro m x
          have fin : ∀ y, y = nI (en t (r i)) → wG (d + 1) 192 (140, [.ref 101, .int (nI a.1 + nI m), .int (nI i), .int (nI (t.P (r i))), .int x], [.int y, .int (nI (t.P (r i))), .ref 108], mkH E (fR ro 108 4 a.2)) Q = wG (d + 1) 192 (24, [.ref 101, .int (nI (a.1 + m)), .int (nI (i + 1)), .int (nI (t.P (r i))), .int x], [], mkH E (fR ro 108 4 (fun j => if j = t.P (r i) then nI (en t (r i)) else a.2 j))) Q := by
            intro y hy
            subst hy
            refine (sg_X10_handsOfRow_140 s_E hix4).trans ?_
            rw [nI_clamp (by omega), fR_u h4, nI_add, ← nI_succ]
          by_cases hb : t.b = 1
          · rw [if_pos hb]
            refine (x_its (w := 6) s_E h7 (by decide)).trans ?_
            exact fin _ (by rw [hM'.F _ hr1.2 h4]; unfold en; rw [if_pos hb])
          · rw [if_neg hb]
            refine (x_its (w := 7) s_E h7 (by decide)).trans ?_
            exact fin _ (by rw [hM'.G _ hr1.2 h4]; unfold en; rw [if_neg hb])
        have mid : ∀ x, x = nI (bg t (r i)) → ∀ v4, wG (d + 1) 192 (78, [.ref 101, .int (nI a.1), .int (nI i), .int (nI (t.P (r i))), v4], [.int x], mkH E (fR ro 108 4 a.2)) Q = Q (some (.int (nI (it (fun k a => hs1 t (r k) a) k (i + 1) (a.1 + (if a.2 (t.P (r i)) < 0 then 0 else if a.2 (t.P (r i)) = nI (bg t (r i)) then 0 else 1), fun j => if j = t.P (r i) then nI (en t (r i)) else a.2 j)).1))) (mkH E (fR ro 108 4 (it (fun k a => hs1 t (r k) a) k (i + 1) (a.1 + (if a.2 (t.P (r i)) < 0 then 0 else if a.2 (t.P (r i)) = nI (bg t (r i)) then 0 else 1), fun j => if j = t.P (r i) then nI (en t (r i)) else a.2 j)).2)) := by
          intro x hx v4
          subst hx
          refine (sg_X10_handsOfRow_78 s_E hix4 (fun _ => hix) (fun _ => hix4) (fun _ _ => hix) (fun _ _ => hix)).trans ?_
          rw [nI_clamp (by omega), nI_clamp (by omega), fR_at h4, hM'.b, e106]
          simp only [b_e ok]
          have r0 := rest 0
          rw [show nI a.1 + nI 0 = nI a.1 + 0 from rfl] at r0
          have r1 := rest 1
          rw [show nI a.1 + nI 1 = nI a.1 + 1 from rfl] at r1
          rw [r0, r1]
          by_cases h5 : a.2 (t.P (r i)) < 0
          · rw [if_pos h5, if_pos h5]
            exact ih (i + 1) (a.1 + 0, fun j => if j = t.P (r i) then nI (en t (r i)) else a.2 j) _ _ (by omega)
          · rw [if_neg h5, if_neg h5]
            by_cases h6 : a.2 (t.P (r i)) = nI (bg t (r i))
            · rw [if_pos h6, if_pos h6]
              exact ih (i + 1) (a.1 + 0, fun j => if j = t.P (r i) then nI (en t (r i)) else a.2 j) _ _ (by omega)
            · rw [if_neg h6, if_neg h6]
              exact ih (i + 1) (a.1 + 1, fun j => if j = t.P (r i) then nI (en t (r i)) else a.2 j) _ _ (by omega)
        by_cases hb : t.b = 1
        · rw [if_pos hb]
          refine (x_its (w := 7) s_E h7 (by decide)).trans ?_
          exact mid _ (by rw [hM'.G _ hr1.2 h4]; unfold bg; rw [if_pos hb]) _
        · rw [if_neg hb]
          refine (x_its (w := 6) s_E h7 (by decide)).trans ?_
          exact mid _ (by rw [hM'.F _ hr1.2 h4]; unfold bg; rw [if_neg hb]) _
      · rw [if_neg h4]
        have e : hs1 t (r i) a = a := by unfold hs1; rw [if_pos (by omega)]
        rw [e]
        exact ih (i + 1) a _ _ (by omega)
  exact key t.n 0 (0, fun _ => -1) _ _ (by omega)
end HM
