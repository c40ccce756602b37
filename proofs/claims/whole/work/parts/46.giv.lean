/-! what a use gives, on both sides -/
def skL (r : Nat → Nat → Int32) (a : Nat) : List Int32 → Prop
  | [] => True
  | v :: st => r (a + 1) st.length = v ∧ skL r a st
def sk (r : Nat → Nat → Int32) (a : Nat) (st : List Int32) : Prop := r a 1 = nI st.length ∧ skL r a st
def wP (a0 : Nat) : Nat → Nat → Prop := fun a k => (a = a0 ∧ k = 1) ∨ a = a0 + 1
/-- the code of a text; what it gives -/
def cdT (b : Nat → Nat) (n u : Nat) : List Int32 := if n = 0 then [] else match txR b n u 0 0 0 with
  | .inl _ => []
  | .inr w => w.1
def tOk (b : Nat → Nat) (n u : Nat) : Prop := n ≤ 50 ∧ (∀ k, k < n → b k < 256) ∧ (n = 0 ∨ ∃ w, txR b n u 0 0 0 = .inr w ∧ w.1.length ≤ 50)
def gvT (b : Nat → Nat) (n u : Nat) (x y z : Int32) : Int32 :=
  let v := if n = 0 then (if u = 0 then x * 10 else 100 - x - y * 5) else match txR b n u x y z with
    | .inl _ => 0
    | .inr w => w.2
  if u = 0 then f_X10_held v 0 99 else f_X10_held v (-999) 999
def tIC (b : Nat → Nat) (n u : Nat) (rc : Nat → Nat → Int32) : Prop := rc (25 + 5 * u) 1 = nI (cdT b n u).length ∧ ∀ k (h : k < (cdT b n u).length), rc (26 + 5 * u) k = (cdT b n u)[k]
def tIM (b : Nat → Nat) (n u : Nat) (rm : Nat → Nat → Int32) : Prop := rm 102 (90 + u) = nI n ∧ ∀ k, k < n → rm 102 (112 + 50 * u + k) = nI (b k)
section GV
variable {d : Nat} {E : pEv} {b : Nat → Nat} {n u a : Nat} {r r' : Nat → Nat → Int32} {Q : Option Value → pH → Prop} {x y z v : Int32} {st : List Int32}
theorem skL_c : ∀ (st : List Int32), skL r a st → (∀ k, k < st.length → r' (a + 1) k = r (a + 1) k) → skL r' a st := by
  intro st
  induction st with
  | nil => intro _ _; trivial
  | cons v st ih =>
    intro h e
    exact ⟨(e _ (by simp)).trans h.1, ih h.2 (fun k hk => e k (by simp; omega))⟩
theorem sk_take (h : sk r a st) (hl : st.length ≤ 50) : f_X4_takeLast r a 50 = (tk st).1 ∧ ∃ r', g_X4_takeLast r a 50 = r' ∧ sE (wP a) r r' ∧ sk r' a (tk st).2 := by
  obtain ⟨h1, h2⟩ := h
  cases st with
  | nil =>
    have := take_0 (c := 50) h1
    exact ⟨this.1, r, this.2, sE_rf, h1, h2⟩
  | cons v st =>
    have := take_in (s := st.length) (c := 50) ⟨h1, hl, by decide⟩
    refine ⟨this.1.trans h2.1, _, this.2, sE_u (Or.inl ⟨rfl, rfl⟩), ?_, ?_⟩
    · rw [uI_at, if_pos ⟨rfl, rfl⟩]; rfl
    · exact skL_c st h2.2 (fun k hk => by rw [uI_at, if_neg (by omega)])
theorem sk_add (h : sk r a st) (hl : st.length < 50) : ∃ r', g_X4_add r a 50 v = r' ∧ sE (wP a) r r' ∧ sk r' a (v :: st) := by
  obtain ⟨h1, h2⟩ := h
  refine ⟨_, add_in (s := st.length) ⟨h1, by omega, by decide⟩ hl, sE_tr (sE_u (Or.inr rfl)) (sE_u (Or.inl ⟨rfl, rfl⟩)), ?_, ?_, ?_⟩
  · rw [uI_at, if_pos ⟨rfl, rfl⟩]; rfl
  · rw [uI_at, if_neg (by omega), uI_at, if_pos ⟨rfl, rfl⟩]
  · exact skL_c st h2 (fun k hk => by rw [uI_at, if_neg (by omega), uI_at, if_neg (by omega)])
theorem tk_len : (tk st).2.length ≤ st.length - 1 := by
  cases st with
  | nil => exact Nat.le_refl _
  | cons v st => show st.length ≤ st.length + 1 - 1; omega
theorem x_worth_lp (s_E : oE E) {r0 : Nat} (h0 : oLaw r0) {cd : List Int32} (hc50 : cd.length ≤ 50) : ∀ k i st r v5 v6, i + k = cd.length → (r (r0 + 3) 1 = nI cd.length ∧ ∀ k (h : k < cd.length), r (r0 + 4) k = cd[k]) → sk r (r0 + 1) st → st.length ≤ i → ∃ r', sE (wP (r0 + 1)) r r' ∧ ∀ Q, wG (d + 2) 17 (10, [.ref r0, .int x, .int y, .int z, .int (nI i), v5, v6], [], mkH E r) Q = Q (some (.int (tk (evC x y z (cd.drop i) st)).1)) (mkH E r') := by
  intro k
  induction k with
  | zero =>
    intro i st r v5 v6 hi hc hs hl
    obtain ⟨t1, r1, t2, s1, _⟩ := sk_take hs (by omega)
    refine ⟨r1, s1, fun Q => ?_⟩
    refine (sg_X1_worth_10 (d := d + 2) s_E h0).trans ?_
    rw [hc.1, if_neg (nI_nlt (by omega) (by omega))]
    refine (y_X4_takeLast (d := d + 1) s_E h0.2.2.2.2.1).trans ?_
    rw [t1, t2]
    refine (sg_X1_worth_153 (d := d + 2) s_E h0).trans ?_
    rw [List.drop_of_length_le (by omega)]
    rfl
  | succ k ih =>
    intro i st r v5 v6 hi hc hs hl
    have hil : i < cd.length := by omega
    have hcs : ∀ {r1}, sE (wP (r0 + 1)) r r1 → (r1 (r0 + 3) 1 = nI cd.length ∧ ∀ k (h : k < cd.length), r1 (r0 + 4) k = cd[k]) := fun s => ⟨by rw [s _ _ (by unfold wP; omega)]; exact hc.1, fun k h => by rw [s _ _ (by unfold wP; omega)]; exact hc.2 k h⟩
    have hd : cd.drop i = cd[i] :: cd.drop (i + 1) := List.drop_eq_getElem_cons hil
    have hev : ∀ st', evC x y z (cd.drop i) st' = evC x y z (cd.drop (i + 1)) (evS x y z cd[i] st') := fun st' => by rw [hd]; rfl
    have pre : ∀ Q, wG (d + 2) 17 (10, [.ref r0, .int x, .int y, .int z, .int (nI i), v5, v6], [], mkH E r) Q = wG (d + 2) 17 (31, [.ref r0, .int x, .int y, .int z, .int (nI i), v5, v6], [.int cd[i]], mkH E r) Q := by
      intro Q
      refine (sg_X1_worth_10 (d := d + 2) s_E h0).trans ?_
      rw [hc.1, if_pos (nI_lt hil (by omega))]
      refine (x_X4_at (d := d + 1) s_E h0.2.2.2.2.2).trans ?_
      rw [at_in ⟨hc.1, hc50, by decide⟩ hil, hc.2 i hil]
      rfl
    rw [hev]
    generalize cd[i] = c at pre
    unfold evS
    by_cases q1 : c < 0
    · rw [if_pos q1]
      by_cases q2 : c < -3
      · rw [if_pos q2]
        obtain ⟨t1, r1, t2, s1, k1⟩ := sk_take hs (by omega)
        have l1 := tk_len (st := st)
        by_cases q3 : c = -33
        · rw [if_pos q3]
          obtain ⟨r2, t3, s2, k2⟩ := sk_add (v := if (tk st).1 = 0 then 1 else 0) k1 (by omega)
          obtain ⟨r3, s3, e3⟩ := ih (i + 1) _ r2 (.int c) (.int (tk st).1) (by omega) (hcs (sE_tr s1 s2)) k2 (by show (tk st).2.length + 1 ≤ i + 1; omega)
          refine ⟨r3, sE_tr s1 (sE_tr s2 s3), fun Q => ?_⟩
          rw [pre]
          refine (sg_X1_worth_31 (d := d + 2) s_E h0).trans ?_
          rw [if_pos q1, if_pos q2]
          refine (y_X4_takeLast (d := d + 1) s_E h0.2.2.2.2.1).trans ?_
          rw [t1, t2]
          refine (sg_X1_worth_96 (d := d + 2) s_E h0).trans ?_
          rw [if_pos q3]
          have fin : ∀ w, w = (if (tk st).1 = 0 then (1 : Int32) else 0) → wX (d + 2) 59 [.ref (r0 + 1), .int w] (mkH E r1) (fun v h' => wG (d + 2) 17 (140, [.ref r0, .int x, .int y, .int z, .int (nI i), .int c, .int (tk st).1], pv v [], h') Q) = Q (some (.int (tk (evC x y z (cd.drop (i + 1)) ((if (tk st).1 = 0 then 1 else 0) :: (tk st).2))).1)) (mkH E r3) := by
            intro w hw
            subst hw
            refine (x_X4_add (d := d + 1) s_E h0.2.2.2.2.1).trans ?_
            rw [t3]
            refine (sg_X1_worth_140 (d := d + 2) s_E h0).trans ?_
            rw [← nI_succ]
            exact e3 Q
          by_cases q4 : (tk st).1 = 0
          · rw [if_pos q4]; exact fin 1 (by rw [if_pos q4])
          · rw [if_neg q4]; exact fin 0 (by rw [if_neg q4])
        · rw [if_neg q3]
          obtain ⟨t3, r2, t4, s2, k2⟩ := sk_take k1 (by omega)
          have l2 := tk_len (st := (tk st).2)
          obtain ⟨r3, t5, s3, k3⟩ := sk_add (v := f_X1_joined (-c) (tk (tk st).2).1 (tk st).1) k2 (by omega)
          obtain ⟨r4, s4, e4⟩ := ih (i + 1) _ r3 (.int c) (.int (tk st).1) (by omega) (hcs (sE_tr s1 (sE_tr s2 s3))) k3 (by show (tk (tk st).2).2.length + 1 ≤ i + 1; omega)
          refine ⟨r4, sE_tr s1 (sE_tr s2 (sE_tr s3 s4)), fun Q => ?_⟩
          rw [pre]
          refine (sg_X1_worth_31 (d := d + 2) s_E h0).trans ?_
          rw [if_pos q1, if_pos q2]
          refine (y_X4_takeLast (d := d + 1) s_E h0.2.2.2.2.1).trans ?_
          rw [t1, t2]
          refine (sg_X1_worth_96 (d := d + 2) s_E h0).trans ?_
          rw [if_neg q3]
          refine (y_X4_takeLast (d := d + 1) s_E h0.2.2.2.2.1).trans ?_
          rw [t3, t4]
          refine (sg_X1_worth_132 (d := d + 2) s_E h0 h0.2.2.2.2.1).trans ?_
          refine (x_X1_joined (d := d + 1) s_E).trans ?_
          refine (sg_X1_worth_137 (d := d + 2) s_E h0 h0.2.2.2.2.1).trans ?_
          refine (x_X4_add (d := d + 1) s_E h0.2.2.2.2.1).trans ?_
          rw [t5]
          refine (sg_X1_worth_140 (d := d + 2) s_E h0).trans ?_
          rw [← nI_succ]
          exact e4 Q
      · rw [if_neg q2]
        obtain ⟨r2, t3, s2, k2⟩ := sk_add (v := if c = -1 then x else if c = -2 then y else z) hs (by omega)
        obtain ⟨r3, s3, e3⟩ := ih (i + 1) _ r2 (.int c) v6 (by omega) (hcs s2) k2 (by show st.length + 1 ≤ i + 1; omega)
        refine ⟨r3, sE_tr s2 s3, fun Q => ?_⟩
        rw [pre]
        refine (sg_X1_worth_31 (d := d + 2) s_E h0).trans ?_
        rw [if_pos q1, if_neg q2]
        have fin : ∀ w, w = (if c = -1 then x else if c = -2 then y else z) → wX (d + 2) 59 [.ref (r0 + 1), .int w] (mkH E r) (fun v h' => wG (d + 2) 17 (86, [.ref r0, .int x, .int y, .int z, .int (nI i), .int c, v6], pv v [], h') Q) = Q (some (.int (tk (evC x y z (cd.drop (i + 1)) ((if c = -1 then x else if c = -2 then y else z) :: st))).1)) (mkH E r3) := by
          intro w hw
          subst hw
          refine (x_X4_add (d := d + 1) s_E h0.2.2.2.2.1).trans ?_
          rw [t3]
          refine (sg_X1_worth_86 (d := d + 2) s_E h0).trans ?_
          rw [← nI_succ]
          exact e3 Q
        by_cases q4 : c = -1
        · rw [if_pos q4]; exact fin x (by rw [if_pos q4])
        · rw [if_neg q4]
          by_cases q5 : c = -2
          · rw [if_pos q5]; exact fin y (by rw [if_neg q4, if_pos q5])
          · rw [if_neg q5]; exact fin z (by rw [if_neg q4, if_neg q5])
    · rw [if_neg q1]
      obtain ⟨r2, t3, s2, k2⟩ := sk_add (v := c) hs (by omega)
      obtain ⟨r3, s3, e3⟩ := ih (i + 1) _ r2 (.int c) v6 (by omega) (hcs s2) k2 (by show st.length + 1 ≤ i + 1; omega)
      refine ⟨r3, sE_tr s2 s3, fun Q => ?_⟩
      rw [pre]
      refine (sg_X1_worth_31 (d := d + 2) s_E h0).trans ?_
      rw [if_neg q1]
      refine (x_X4_add (d := d + 1) s_E h0.2.2.2.2.1).trans ?_
      rw [t3]
      refine (sg_X1_worth_47 (d := d + 2) s_E h0).trans ?_
      rw [← nI_succ]
      exact e3 Q
theorem x_worth (s_E : oE E) {r0 : Nat} (h0 : oLaw r0) {cd : List Int32} (hc50 : cd.length ≤ 50) (hc : r (r0 + 3) 1 = nI cd.length ∧ ∀ k (h : k < cd.length), r (r0 + 4) k = cd[k]) : ∃ r', sE (wP (r0 + 1)) r r' ∧ ∀ Q, wX (d + 3) 17 [.ref r0, .int x, .int y, .int z] (mkH E r) Q = Q (some (.int (tk (evC x y z cd [])).1)) (mkH E r') := by
  have s0 : sE (wP (r0 + 1)) r (g_X4_clear r (r0 + 1) 50) := sE_u (Or.inl ⟨rfl, rfl⟩)
  obtain ⟨r', s1, e1⟩ := x_worth_lp (d := d) (x := x) (y := y) (z := z) s_E h0 hc50 cd.length 0 [] (g_X4_clear r (r0 + 1) 50) (.retAddr 0) (.retAddr 0) (by omega) ⟨by rw [s0 _ _ (by unfold wP; omega)]; exact hc.1, fun k h => by rw [s0 _ _ (by unfold wP; omega)]; exact hc.2 k h⟩ ⟨by unfold g_X4_clear; rw [uI_at, if_pos ⟨rfl, rfl⟩]; rfl, trivial⟩ (Nat.le_refl _)
  refine ⟨r', sE_tr s0 s1, fun Q => ?_⟩
  refine (en_X1_worth (d := d + 2) s_E h0).trans ?_
  refine (x_X4_clear (d := d + 1) s_E h0.2.2.2.2.1).trans ?_
  refine (sg_X1_worth_7 (d := d + 2) s_E h0).trans ?_
  refine (e1 Q).trans ?_
  rw [List.drop_zero]
theorem held_eq {x lo hi : Int32} (h : lo ≤ hi) : f_X9_held x lo hi = f_X10_held x lo hi := by
  unfold f_X9_held f_X10_held
  have h' := Int32.le_iff_toInt_le.mp h
  have L : ∀ a b : Int32, (a < b) = (a.toInt < b.toInt) := fun a b => propext Int32.lt_iff_toInt_lt
  by_cases h1 : x < hi
  · rw [if_pos h1]
    rw [L] at h1
    by_cases h2 : x < lo
    · rw [if_pos h2, if_neg (by rw [L] at h2 ⊢; omega)]
    · rw [if_neg h2, if_neg (show ¬ hi < x by rw [L]; omega)]
      by_cases h3 : lo < x
      · rw [if_pos h3]
      · rw [if_neg h3]
        refine Int32.toInt_inj.mp ?_
        rw [L] at h2 h3
        omega
  · rw [if_neg h1]
    rw [L] at h1
    rw [if_neg (show ¬ x < lo by rw [L]; omega)]
    by_cases h2 : hi < x
    · rw [if_pos h2]
      by_cases h3 : lo < hi
      · rw [if_pos h3]
      · rw [if_neg h3]
        refine Int32.toInt_inj.mp ?_
        rw [L] at h3
        omega
    · rw [if_neg h2]
      rw [L] at h2
      have e : hi = x := Int32.toInt_inj.mp (by omega)
      rw [e]
      by_cases h3 : lo < x
      · rw [if_pos h3]
      · rw [if_neg h3]
        refine Int32.toInt_inj.mp ?_
        rw [L] at h3
        omega
theorem cd_len (ok : tOk b n u) : (cdT b n u).length ≤ 50 ∧ ((cdT b n u).length = 0 ↔ n = 0) := by
  obtain ⟨h1, h2, h3⟩ := ok
  unfold cdT
  rcases h3 with h3 | ⟨w, h3, h4⟩
  · rw [if_pos h3]
    exact ⟨by decide, by simp [h3]⟩
  · by_cases q : n = 0
    · rw [if_pos q]
      exact ⟨by decide, by simp [q]⟩
    · rw [if_neg q, h3]
      refine ⟨h4, fun h => ?_, fun h => absurd h q⟩
      have e : w.1 = [] := List.length_eq_zero_iff.mp h
      have := gd_tx h3
      rw [e] at this
      cases this
theorem cd_ev (ok : tOk b n u) (hn : ¬ n = 0) : ∃ v, txR b n u x y z = .inr (cdT b n u, v) ∧ evC x y z (cdT b n u) [] = [v] := by
  obtain ⟨h1, h2, h3⟩ := ok
  rcases h3 with h3 | ⟨w, h3, h4⟩
  · exact absurd h3 hn
  · obtain ⟨v, hv⟩ := tx_r (x' := x) (y' := y) (z' := z) h3
    have e : cdT b n u = w.1 := by unfold cdT; rw [if_neg hn, h3]
    rw [e]
    exact ⟨v, hv, gd_tx hv⟩
theorem x_gives (s_E : oE E) (hu : u < 2) (ok : tOk b n u) (hC : tIC b n u r) (hU : r (22 + 5 * u) 0 = nI u) : ∃ r', sE (wP (23 + 5 * u)) r r' ∧ ∀ Q, wX (d + 4) 16 [.ref (22 + 5 * u), .int x, .int y, .int z] (mkH E r) Q = Q (some (.int (gvT b n u x y z))) (mkH E r') := by
  have h0 : oLaw (22 + 5 * u) := by
    match u, hu with
    | 0, _ => exact oL rfl (oR rfl) (oR rfl)
    | 1, _ => exact oL rfl (oR rfl) (oR rfl)
    | u + 2, h => exact absurd h (by omega)
  obtain ⟨hl, hl0⟩ := cd_len ok
  have e3 : 22 + 5 * u + 3 = 25 + 5 * u := by omega
  have e4 : 22 + 5 * u + 4 = 26 + 5 * u := by omega
  have e1 : 22 + 5 * u + 1 = 23 + 5 * u := by omega
  obtain ⟨r', s1, q1⟩ := x_worth (d := d) (x := x) (y := y) (z := z) (r := r) s_E h0 hl (by rw [e3, e4]; exact hC)
  have hu0 : (r (22 + 5 * u) 0 = 0) = (u = 0) := by rw [hU]; exact propext (nI_eq (b := 0) (by omega) (by decide))
  have hz : (r (22 + 5 * u + 3) 1 = 0) = (n = 0) := by
    rw [e3, hC.1]
    refine propext ⟨fun h => hl0.mp ((nI_eq (b := 0) (by omega) (by decide)).mp h), fun h => ?_⟩
    rw [hl0.mpr h]
    rfl
  rw [e1] at s1
  by_cases hn : n = 0
  · refine ⟨r, sE_rf, fun Q => ?_⟩
    refine (en_X1_gives (d := d + 3) s_E h0).trans ?_
    unfold gvT
    rw [if_pos hn]
    by_cases h : u = 0
    · rw [if_pos (hu0.mpr h), if_pos (hz.mpr hn)]
      refine (x_X9_held (d := d + 2) s_E).trans ?_
      rw [held_eq (by decide)]
      refine (sg_X1_gives_37 (d := d + 3) s_E h0).trans ?_
      rw [if_pos h, if_pos h]
    · rw [if_neg (fun q => h (hu0.mp q)), if_pos (hz.mpr hn)]
      refine (x_X9_held (d := d + 2) s_E).trans ?_
      rw [held_eq (by decide)]
      refine (sg_X1_gives_75 (d := d + 3) s_E h0).trans ?_
      rw [if_neg h, if_neg h]
  · obtain ⟨v, hv1, hv2⟩ := cd_ev (x := x) (y := y) (z := z) ok hn
    refine ⟨r', s1, fun Q => ?_⟩
    refine (en_X1_gives (d := d + 3) s_E h0).trans ?_
    unfold gvT
    rw [if_neg hn, hv1]
    rw [hv2] at q1
    by_cases h : u = 0
    · rw [if_pos (hu0.mpr h), if_neg (fun q => hn (hz.mp q))]
      refine (q1 _).trans ?_
      refine (sg_X1_gives_31 (d := d + 3) s_E h0).trans ?_
      refine (x_X9_held (d := d + 2) s_E).trans ?_
      rw [held_eq (by decide)]
      refine (sg_X1_gives_37 (d := d + 3) s_E h0).trans ?_
      rw [if_pos h]
      rfl
    · rw [if_neg (fun q => h (hu0.mp q)), if_neg (fun q => hn (hz.mp q))]
      refine (q1 _).trans ?_
      refine (sg_X1_gives_66 (d := d + 3) s_E h0).trans ?_
      refine (x_X9_held (d := d + 2) s_E).trans ?_
      rw [held_eq (by decide)]
      refine (sg_X1_gives_75 (d := d + 3) s_E h0).trans ?_
      rw [if_neg h]
      rfl
theorem x_textGives (s_E : oE E) (hu : u < 2) (ok : tOk b n u) (hM : tIM b n u r) : ∃ r', sE (fun a k => a = 105 ∨ (a = 101 ∧ 4 ≤ k ∧ k ≤ 9)) r r' ∧ ∀ Q, wX (d + 51) 173 [.ref 101, .int (nI u), .int x, .int y, .int z] (mkH E r) Q = Q (some (.int (gvT b n u x y z))) (mkH E r') := by
  have eu : ∀ u, u < 2 → (90 + nI u).toNatClampNeg = 90 + u ∧ ¬ (90 + nI u) < 0 ∧ 112 + (50 * nI u) = nI (112 + 50 * u) := by decide +kernel
  obtain ⟨eu1, eu2, eu3⟩ := eu u hu
  have hu0 : (nI u = 0) = (u = 0) := propext (nI_eq (b := 0) (by omega) (by decide))
  have hn50 := ok.1
  have b9 : ¬ (90 + nI u) < 0 ∧ (90 + nI u).toNatClampNeg < 264 := ⟨eu2, by rw [eu1]; omega⟩
  have hpos : (0 < r 102 (90 + u)) = (0 < n) := by rw [hM.1]; exact propext (nI_ltI (a := 0) (by decide) (by omega))
  have fin : ∀ x5 w r1 Q, wG (d + 50) 173 (76, [.ref 101, .int (nI u), .int x, .int y, .int z, .int x5], [.int w], mkH E r1) Q = Q (some (.int (if u = 0 then f_X10_held w 0 99 else f_X10_held w (-999) 999))) (mkH E r1) := by
    intro x5 w r1 Q
    refine (sg_X10_textGives_76 (d := d + 50) s_E).trans ?_
    simp only [hu0]
    by_cases h : u = 0
    · rw [if_pos h, if_pos h]
      refine (x_X10_held (d := d + 49) s_E).trans ?_
      exact sg_X10_textGives_90 (d := d + 50) s_E
    · rw [if_neg h, if_neg h]
      refine (x_X10_held (d := d + 49) s_E).trans ?_
      exact sg_X10_textGives_104 (d := d + 50) s_E
  by_cases hn : n = 0
  · refine ⟨r, sE_rf, fun Q => ?_⟩
    refine (en_X10_textGives (d := d + 50) s_E (fun _ => b9) (fun _ _ => b9) (fun _ => b9) (fun _ _ => b9)).trans ?_
    unfold gvT
    rw [eu1]
    simp only [hpos, hu0]
    rw [if_pos hn]
    by_cases h : u = 0
    · rw [if_pos h, if_pos h, if_neg (by omega), if_pos h]
      refine (x_X10_held (d := d + 49) s_E).trans ?_
      refine (sg_X10_textGives_90 (d := d + 50) s_E).trans ?_
      rw [if_pos h]
    · rw [if_neg h, if_neg h, if_neg (by omega), if_neg h]
      refine (x_X10_held (d := d + 49) s_E).trans ?_
      refine (sg_X10_textGives_104 (d := d + 50) s_E).trans ?_
      rw [if_neg h]
  · obtain ⟨v, hv1, hv2⟩ := cd_ev (x := x) (y := y) (z := z) ok hn
    have sP : sE (fun a k => a = 105 ∨ (a = 101 ∧ 4 ≤ k ∧ k ≤ 9)) r (uI (uI (uI r 105 0 x) 105 1 y) 105 2 z) := sE_tr (sE_tr (sE_u (Or.inl rfl)) (sE_u (Or.inl rfl))) (sE_u (Or.inl rfl))
    obtain ⟨r', s1, q1⟩ := x_worked (d := d) (b := b) (n := n) (u := u) (base := 112 + 50 * u) (r := uI (uI (uI r 105 0 x) 105 1 y) 105 2 z) (x := x) (y := y) (z := z) s_E (fun k hk => ⟨by rw [sP _ _ (by omega)]; exact hM.2 k hk, ok.2.1 k hk⟩) hn50 (by omega) hu (by simp [uI_at]) (by simp [uI_at]) (by simp [uI_at])
    rw [hv1] at q1
    refine ⟨r', sE_tr sP (sE_mo s1 (fun a k q => Or.inr q)), fun Q => ?_⟩
    refine (en_X10_textGives (d := d + 50) s_E (fun _ => b9) (fun _ _ => b9) (fun _ => b9) (fun _ _ => b9)).trans ?_
    unfold gvT
    have en : (uI (uI (uI r 105 0 x) 105 1 y) 105 2 z) 102 (90 + nI u).toNatClampNeg = nI n := by rw [eu1, sP _ _ (by omega)]; exact hM.1
    rw [en, eu1]
    simp only [hpos, hu0]
    rw [if_neg hn, hv1, eu3]
    by_cases h : u = 0
    · rw [if_pos h, if_pos (by omega)]
      refine (q1.2 _).trans ?_
      refine (fin _ _ _ _).trans ?_
      rw [if_pos h]
      try rfl
    · rw [if_neg h, if_pos (by omega)]
      refine (q1.2 _).trans ?_
      refine (fin _ _ _ _).trans ?_
      rw [if_neg h]
      try rfl
end GV
