/-! what is guessed, on both sides -/
def SC : Nat → Nat → Prop := fun a k => a = 9 ∨ a = 21 ∨ a = 23 ∨ a = 24 ∨ a = 28 ∨ a = 29 ∨ a = 67 ∨ a = 69 ∨ a = 71 ∨ a = 73 ∨ a = 75 ∨ a = 76 ∨ a = 77 ∨ a = 79 ∨ a = 80 ∨ (a = 81 ∧ k = 2) ∨ a = 82 ∨ a = 83
def SM : Nat → Nat → Prop := fun a k => (a = 101 ∧ (4 ≤ k ∧ k ≤ 9 ∨ k = 15 ∨ k = 16 ∨ k = 20)) ∨ a = 105 ∨ a = 106 ∨ a = 107 ∨ a = 108 ∨ a = 109 ∨ a = 110 ∨ a = 115
abbrev Tx : Type := Nat → (Nat → Nat) × Nat
def xOK (X : Tx) : Prop := ∀ u, u < 2 → tOk (X u).1 (X u).2 u
def xC (X : Tx) (r : Nat → Nat → Int32) : Prop := (∀ u, u < 2 → tIC (X u).1 (X u).2 u r) ∧ ∀ u, u < 2 → r (22 + 5 * u) 0 = nI u
def xM (X : Tx) (r : Nat → Nat → Int32) : Prop := ∀ u, u < 2 → tIM (X u).1 (X u).2 u r
def gN (X : Tx) (x y z : Int32) : Nat := (gvT (X 0).1 (X 0).2 0 x y z).toNatClampNeg
def sh (t : Th) (s : Nat) : Nat := if t.K s = 2 then t.M s else if t.K s = 3 then 5 else if t.K s = 4 then 0 else if t.K s = 5 then t.M s else if t.K s = 6 then 5 + t.M s else 0
def gu (t : Th) (X : Tx) (s c : Nat) : Nat := gN X (nI c) (nI (t.T s)) (nI (t.M s)) + (if 0 < c then sh t s else 0)
def an (C g : Nat) : Nat := C &&& (127 ^^^ g)
def gaR (r : Nat → Nat) (p : Nat) : Nat := it (fun i a => a ||| 1 <<< r i) p 0 0
def gAt (t : Th) (X : Tx) (r : Nat → Nat) (p : Nat) : Nat := gu t X (r p) (bc (an (t.C (r p)) (gaR r p)))
def gs1 (t : Th) (X : Tx) (s : Nat) (a : Nat × Nat) : Nat × Nat := (a.1 + gu t X s (bc (an (t.C s) a.2)), a.2 ||| 1 <<< s)
def gs (t : Th) (X : Tx) (r : Nat → Nat) : Nat := (it (fun k a => gs1 t X (r k) a) t.n 0 (0, 0)).1
section GU
variable {d : Nat} {E : pEv} {r r' : Nat → Nat → Int32} {Q : Option Value → pH → Prop} {t : Th} {X : Tx} {x y z v : Int32}
theorem h99 : ∃ j, j ≤ 99 ∧ f_X10_held v 0 99 = nI j := by
  unfold f_X10_held
  by_cases h1 : v < 0
  · exact ⟨0, by omega, by rw [if_pos h1]; rfl⟩
  · rw [if_neg h1]
    by_cases h2 : 99 < v
    · exact ⟨99, by omega, by rw [if_pos h2]; rfl⟩
    · obtain ⟨j, hj, rfl⟩ := nI_of2 (M := 99) (n := 99) (by decide) h1 (Int32.not_lt.mp h2)
      exact ⟨j, hj, by rw [if_neg h2]⟩
theorem gN_v : gvT (X 0).1 (X 0).2 0 x y z = nI (gN X x y z) ∧ gN X x y z ≤ 99 := by
  have : ∃ j, j ≤ 99 ∧ gvT (X 0).1 (X 0).2 0 x y z = nI j := by
    unfold gvT
    rw [if_pos rfl]
    exact h99
  obtain ⟨j, hj, e⟩ := this
  unfold gN
  rw [e, nI_clamp (by omega)]
  exact ⟨rfl, hj⟩
theorem tC_s (hC : tC t r) (hn : t.n ≤ 7) (s : sE SC r r') : tC t r' := by
  obtain ⟨h1, h2, h3, h4, h5, h6, h7, h8, h9, h10, h11, h12, h13, h14, h15⟩ := hC
  have e : ∀ a k, (11 ≤ a ∧ a ≤ 20) ∨ a = 32 ∨ a = 33 → r' a k = r a k := fun a k q => s a k (by unfold SC; omega)
  refine ⟨?_, ?_, ?_, ?_, ?_, ?_, ?_, ?_, ?_, ?_, ?_, ?_, ?_, ?_, ?_⟩
  · rw [e _ _ (by omega)]; exact h1
  · intro i hi; rw [e _ _ (by omega)]; exact h2 i hi
  · intro i hi; rw [e _ _ (by omega)]; exact h3 i hi
  · intro i hi; rw [e _ _ (by omega)]; exact h4 i hi
  · intro i hi; rw [e _ _ (by omega)]; exact h5 i hi
  · intro i hi; rw [e _ _ (by omega)]; exact h6 i hi
  · intro i hi; rw [e _ _ (by omega)]; exact h7 i hi
  · intro i hi; rw [e _ _ (by omega)]; exact h8 i hi
  · intro i hi hp; rw [e _ _ (by omega)]; exact h9 i hi hp
  · intro i hi hp; rw [e _ _ (by omega)]; exact h10 i hi hp
  · intro i hi; rw [e _ _ (by omega)]; exact h11 i hi
  · rw [e _ _ (by omega)]; exact h12
  · intro i hi; rw [e _ _ (by omega)]; exact h13 i hi
  · rw [e _ _ (by omega)]; exact h14
  · rw [e _ _ (by omega)]; exact h15
theorem xC_s (hX : xC X r) (s : sE SC r r') : xC X r' := by
  refine ⟨fun u hu => ?_, fun u hu => ?_⟩
  · obtain ⟨h1, h2⟩ := hX.1 u hu
    refine ⟨?_, fun k hk => ?_⟩
    · rw [s _ _ (by unfold SC; omega)]; exact h1
    · rw [s _ _ (by unfold SC; omega)]; exact h2 k hk
  · rw [s _ _ (by unfold SC; omega)]; exact hX.2 u hu
theorem tM_s (hM : tM t r) (s : sE SM r r') : tM t r' := hM.fr (funext fun k => s 102 k (by unfold SM; omega))
theorem xM_s (hX : xM X r) (s : sE SM r r') : xM X r' := by
  intro u hu
  obtain ⟨h1, h2⟩ := hX u hu
  refine ⟨?_, fun k hk => ?_⟩
  · rw [s _ _ (by unfold SM; omega)]; exact h1
  · rw [s _ _ (by unfold SM; omega)]; exact h2 k hk
theorem w23 (s : sE (wP 23) r r') : sE SC r r' := sE_mo s (fun a k h => by unfold wP at h; unfold SC; omega)
theorem sh_C (ok : tOK t) (hC : tC t r) {s : Nat} (hs : s < t.n) : f_X5_shock r (13 + s) = nI (sh t s) := by
  have hK := ok.K s hs
  have hM := ok.M s hs
  unfold f_X5_shock sh
  rw [hC.K s hs, hC.M s hs]
  have e : ∀ k, k < 7 → (nI (t.K s) = nI k) = (t.K s = k) := fun k hk => propext (nI_eq (by omega) (by omega))
  have e2 : (nI (t.K s) = 2) = (t.K s = 2) := e 2 (by decide)
  have e3 : (nI (t.K s) = 3) = (t.K s = 3) := e 3 (by decide)
  have e4 : (nI (t.K s) = 4) = (t.K s = 4) := e 4 (by decide)
  have e5 : (nI (t.K s) = 5) = (t.K s = 5) := e 5 (by decide)
  have e6 : (nI (t.K s) = 6) = (t.K s = 6) := e 6 (by decide)
  simp only [e2, e3, e4, e5, e6]
  (repeat' split) <;> first | rfl | (show nI 5 + nI _ = _; rw [nI_add])
theorem sh_M (ok : tOK t) (hM : tM t r) {s : Nat} (hs : s < t.n) : f_X10_shock r (nI s) = nI (sh t s) := by
  have h7 : s < 7 := by have := ok.n; omega
  have hK := ok.K s hs
  have hm := ok.M s hs
  have i0 : f_X10_its r (nI s) 0 = nI (t.K s) := by
    have := (its_at (s := s) (w := 0) h7 (by decide)).1
    unfold f_X10_its
    rw [show (0 : Int32) = nI 0 from rfl, this]
    exact hM.K s hs
  have i1 : f_X10_its r (nI s) 1 = nI (t.M s) := by
    have := (its_at (s := s) (w := 1) h7 (by decide)).1
    unfold f_X10_its
    rw [show (1 : Int32) = nI 1 from rfl, this]
    exact hM.M s hs
  unfold f_X10_shock sh
  rw [i0, i1]
  have e : ∀ k, k < 7 → (nI (t.K s) = nI k) = (t.K s = k) := fun k hk => propext (nI_eq (by omega) (by omega))
  have e2 : (nI (t.K s) = 2) = (t.K s = 2) := e 2 (by decide)
  have e3 : (nI (t.K s) = 3) = (t.K s = 3) := e 3 (by decide)
  have e4 : (nI (t.K s) = 4) = (t.K s = 4) := e 4 (by decide)
  have e5 : (nI (t.K s) = 5) = (t.K s = 5) := e 5 (by decide)
  have e6 : (nI (t.K s) = 6) = (t.K s = 6) := e 6 (by decide)
  simp only [e2, e3, e4, e5, e6]
  (repeat' split) <;> first | rfl | (show nI 5 + nI _ = _; rw [nI_add])
theorem an_t {C g : Nat} (hC : C < 128) (hg : g < 128) : nI C &&& (nI g ^^^ (-1)) = nI (an C g) := by
  have : ∀ g, g < 128 → nI g ^^^ (-1) = -1 - nI g ∧ ∀ C, C < 128 → nI C &&& (-1 - nI g) = nI (an C g) := by decide +kernel
  rw [(this g hg).1]
  exact (this g hg).2 C hC
theorem an_lt {C g : Nat} (hC : C < 128) : an C g < 128 := Nat.lt_of_le_of_lt Nat.and_le_left hC
theorem sl_lt {i : Nat} (h : i < 7) : 1 <<< i < 128 := by
  have : ∀ i, i < 7 → 1 <<< i < 128 := by decide
  exact this i h
theorem gaR_lt {o : Nat → Nat} {p : Nat} (h : ∀ i, i < p → o i < 7) : gaR o p < 128 :=
  it_inv (n := p) (J := fun _ b => b < 128) (fun k b hk hb => or7 hb (sl_lt (h k hk))) (by decide) p (Nat.le_refl _)
theorem C128 (ok : tOK t) {s : Nat} (hs : s < t.n) : t.C s < 128 := by
  have h1 := ok.C s hs
  have h2 := p27 (show s < 7 by have := ok.n; omega)
  omega
theorem x_guessOf (s_E : oE E) (ok : tOK t) (hC : tC t r) (xo : xOK X) (hX : xC X r) {s c : Nat} (hs : s < t.n) (hc : c ≤ 7) : ∃ r', sE (wP 23) r r' ∧ ∀ Q, wX (d + 5) 33 [.ref 11, .int (nI s), .int (nI c)] (mkH E r) Q = Q (some (.int (nI (gu t X s c)))) (mkH E r') := by
  have h7 : s < 7 := by have := ok.n; omega
  obtain ⟨r', s1, e1⟩ := x_gives (d := d) (u := 0) (x := nI c) (y := nI (t.T s)) (z := nI (t.M s)) s_E (by decide) (xo 0 (by decide)) (hX.1 0 (by decide)) (hX.2 0 (by decide))
  refine ⟨r', s1, fun Q => ?_⟩
  have hC' := tC_s hC ok.n (w23 s1)
  refine (en_X2_guessOf (d := d + 4) s_E).trans ?_
  refine (x_X2_at (d := d + 3) s_E oP11).trans ?_
  rw [sc_at h7]
  refine (sg_X2_guessOf_5 (d := d + 4) s_E (oS11 h7)).trans ?_
  rw [hC.T s hs, hC.M s hs]
  refine (e1 _).trans ?_
  rw [gN_v.1]
  refine (sg_X2_guessOf_22 (d := d + 4) s_E (oS11 h7)).trans ?_
  have hp : (0 < nI c) = (0 < c) := propext (nI_ltI (a := 0) (by decide) (by omega))
  simp only [hp]
  unfold gu
  by_cases h : 0 < c
  · rw [if_pos h, if_pos h]
    refine (x_X5_shock (d := d + 3) s_E (oS11 h7)).trans ?_
    rw [sh_C ok hC' hs]
    refine (sg_X2_guessOf_30 (d := d + 4) s_E (oS11 h7)).trans ?_
    rw [nI_add]
  · rw [if_neg h, if_neg h]
    rw [show (0 : Int32) = nI 0 from rfl, nI_add]
theorem x_guessAt (s_E : oE E) (ok : tOK t) (hC : tC t r) (xo : xOK X) (hX : xC X r) {p : Nat} (hp : p < t.n) : ∃ r', sE (wP 23) r r' ∧ ∀ Q, wX (d + 6) 32 [.ref 11, .int (nI p)] (mkH E r) Q = Q (some (.int (nI (gAt t X t.o p)))) (mkH E r') := by
  have hn := ok.n
  have ho := ok.o p hp
  have h7 : t.o p < 7 := by omega
  have hg : ga t p < 128 := gaR_lt (o := t.o) (fun i hi => by have := ok.o i (by omega); omega)
  obtain ⟨r', s1, e1⟩ := x_guessOf (d := d) (c := bc (an (t.C (t.o p)) (gaR t.o p))) s_E ok hC xo hX ho (bc_le _)
  refine ⟨r', s1, fun Q => ?_⟩
  refine (en_X2_guessAt (d := d + 5) s_E).trans ?_
  refine (x_X4_at (d := d + 4) (c_h0 := 7) s_E (oR rfl)).trans ?_
  rw [at_in (rK32 ok hC) hp, hC.o p hp]
  refine (sg_X2_guessAt_8 (d := d + 5) s_E).trans ?_
  refine (x_X2_at (d := d + 4) s_E oP11).trans ?_
  rw [sc_at h7]
  refine (sg_X2_guessAt_16 (d := d + 5) s_E (oS11 h7)).trans ?_
  refine (x_X2_givenAhead (d := d + 3) s_E ok hC (by omega)).trans ?_
  refine (sg_X2_guessAt_24 (d := d + 5) s_E).trans ?_
  rw [hC.C _ ho, an_t (C128 ok ho) hg]
  refine (x_J6_bitCount_0f7a4 (d := d + 4) s_E).trans ?_
  rw [nI_bc (an_lt (C128 ok ho))]
  refine (sg_X2_guessAt_30 (d := d + 5) s_E).trans ?_
  refine (e1 _).trans ?_
  exact sg_X2_guessAt_33 (d := d + 5) s_E
theorem x_guessed (s_E : oE E) (ok : tOK t) (hC : tC t r) (xo : xOK X) (hX : xC X r) : ∃ r', sE (wP 23) r r' ∧ ∀ Q, wX (d + 6) 34 [.ref 11] (mkH E r) Q = Q (some (.int (nI (gs t X t.o)))) (mkH E r') := by
  have hn := ok.n
  have key : ∀ k i (a : Nat × Nat) r v4, i + k = t.n → a.2 < 128 → tC t r → xC X r → ∃ r', sE (wP 23) r r' ∧ ∀ Q, wG (d + 5) 34 (6, [.ref 11, .int (nI a.1), .int (nI a.2), .int (nI i), v4], [], mkH E r) Q = Q (some (.int (nI (it (fun k a => gs1 t X (t.o k) a) k i a).1))) (mkH E r') := by
    intro k
    induction k with
    | zero =>
      intro i a r v4 hi ha hC hX
      refine ⟨r, sE_rf, fun Q => ?_⟩
      rw [sg_X2_guessed_6 s_E, hC.n, if_neg (nI_nlt (by omega) (by omega))]
      rfl
    | succ k ih =>
      intro i a r v4 hi ha hC hX
      have hit : i < t.n := by omega
      have ho := ok.o i hit
      have h7 : t.o i < 7 := by omega
      obtain ⟨r1, s1, e1⟩ := x_guessOf (d := d) (c := bc (an (t.C (t.o i)) a.2)) s_E ok hC xo hX ho (bc_le _)
      obtain ⟨r2, s2, e2⟩ := ih (i + 1) (gs1 t X (t.o i) a) r1 (.int (nI (t.o i))) (by omega) (or7 ha (sl_lt h7)) (tC_s hC hn (w23 s1)) (xC_s hX (w23 s1))
      refine ⟨r2, sE_tr s1 s2, fun Q => ?_⟩
      rw [sg_X2_guessed_6 s_E, hC.n, if_pos (nI_lt hit (by omega))]
      refine (x_X4_at (d := d + 4) (c_h0 := 7) s_E (oR rfl)).trans ?_
      rw [at_in (rK32 ok hC) hit, hC.o i hit]
      refine (sg_X2_guessed_22 (d := d + 5) s_E).trans ?_
      refine (x_X2_at (d := d + 4) s_E oP11).trans ?_
      rw [sc_at h7]
      refine (sg_X2_guessed_34 (d := d + 5) s_E (oS11 h7)).trans ?_
      rw [hC.C _ ho, an_t (C128 ok ho) ha]
      refine (x_J6_bitCount_0f7a4 (d := d + 4) s_E).trans ?_
      rw [nI_bc (an_lt (C128 ok ho))]
      refine (sg_X2_guessed_44 (d := d + 5) s_E).trans ?_
      refine (e1 _).trans ?_
      refine (sg_X2_guessed_47 (d := d + 5) s_E).trans ?_
      rw [nI_add, sh31 (by omega), show (1 : Int32) = nI 1 from rfl, nI_shl (by omega), ← nI_or, nI_add]
      exact e2 Q
  obtain ⟨r', s1, e1⟩ := key t.n 0 (0, 0) r (.retAddr 0) (by omega) (by decide) hC hX
  refine ⟨r', s1, fun Q => ?_⟩
  refine (en_X2_guessed (d := d + 5) s_E).trans ?_
  exact e1 Q
end GU
