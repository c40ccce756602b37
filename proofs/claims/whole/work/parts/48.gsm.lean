section GM
variable {d : Nat} {E : pEv} {r r' : Nat → Nat → Int32} {Q : Option Value → pH → Prop} {t : Th} {X : Tx} {x y z v : Int32}
theorem fR_o_k {a s b k : Nat} {g : Nat → Int32} (h : b ≠ a) : fR r a s g b k = r b k := by rw [fR_o h]
theorem x_rowAsGiven (s_E : oE E) (ok : tOK t) (hM : tM t r) : ∃ r', sE (fun a _ => a = 106) r r' ∧ rW t t.o r' ∧ ∀ Q, wX (d + 1) 188 [.ref 101] (mkH E r) Q = Q none (mkH E r') := by
  have hn := ok.n
  have key : ∀ k i r, i + k = t.n → tM t r → (∀ j, j < i → r 106 j = nI (t.o j)) → ∃ r', sE (fun a _ => a = 106) r r' ∧ (∀ j, j < t.n → r' 106 j = nI (t.o j)) ∧ ∀ Q, wG d 188 (2, [.ref 101, .int (nI i)], [], mkH E r) Q = Q none (mkH E r') := by
    intro k
    induction k with
    | zero =>
      intro i r hi hM hj
      have hlt : ¬ nI i < r 102 0 := by rw [hM.n]; exact nI_nlt (by omega) (by omega)
      refine ⟨r, sE_rf, fun j hjn => hj j (by omega), fun Q => ?_⟩
      refine (sg_X10_rowAsGiven_2 s_E (fun h => absurd h hlt) (fun h => absurd h hlt)).trans ?_
      rw [if_neg hlt]
    | succ k ih =>
      intro i r hi hM hj
      have hit : i < t.n := by omega
      have oa := o_at (show i < 7 by omega)
      have hM' : tM t (uI r 106 i (nI (t.o i))) := hM.fr (funext fun k => by rw [uI_at, if_neg (by omega)])
      obtain ⟨r2, s2, j2, e2⟩ := ih (i + 1) (uI r 106 i (nI (t.o i))) (by omega) hM' (fun j hj2 => by
        rw [uI_at]
        by_cases q : j = i
        · subst q; rw [if_pos ⟨rfl, rfl⟩]
        · rw [if_neg (by omega)]; exact hj j (by omega))
      refine ⟨r2, sE_tr (sE_u rfl) s2, j2, fun Q => ?_⟩
      refine (sg_X10_rowAsGiven_2 s_E (fun _ => ⟨oa.2, by omega⟩) (fun _ => ix_n (show i < 7 by omega) (by decide))).trans ?_
      rw [hM.n, if_pos (nI_lt hit (by omega)), oa.1, hM.o i hit, nI_clamp (by omega), ← nI_succ]
      exact e2 Q
  obtain ⟨r', s1, j1, e1⟩ := key t.n 0 r (by omega) hM (fun j hj => absurd hj (Nat.not_lt_zero _))
  refine ⟨r', s1, fun k hk => ⟨j1 k hk, ok.o k hk⟩, fun Q => ?_⟩
  refine (en_X10_rowAsGiven s_E).trans ?_
  exact e1 Q
def gfP : Nat → Nat → Prop := fun a k => a = 107 ∨ a = 105 ∨ (a = 101 ∧ 4 ≤ k ∧ k ≤ 9)
theorem gfS (s : sE gfP r r') : sE SM r r' := sE_mo s (fun a k h => by unfold gfP at h; unfold SM; omega)
/-- what is guessed, as the model lays it down -/
def guT (t : Th) (X : Tx) (r : Nat → Nat → Int32) : Prop := ∀ s c, s < t.n → c ≤ bc (t.C s) → r 107 (8 * s + c) = nI (gu t X s c)
theorem g8 : ∀ s, s < 7 → ∀ c, c ≤ 7 → (8 * nI s + nI c).toNatClampNeg = 8 * s + c ∧ ¬ (8 * nI s + nI c) < 0 := by decide +kernel
theorem x_findGuesses (s_E : oE E) (ok : tOK t) (hM : tM t r) (xo : xOK X) (hX : xM X r) : ∃ r', sE gfP r r' ∧ guT t X r' ∧ ∀ Q, wX (d + 53) 189 [.ref 101] (mkH E r) Q = Q none (mkH E r') := by
  have hn := ok.n
  have inner : ∀ s, s < t.n → ∀ k c r, c + k = bc (t.C s) + 1 → tM t r → xM X r → (∀ s' c', s' < t.n → c' ≤ bc (t.C s') → (s' < s ∨ s' = s ∧ c' < c) → r 107 (8 * s' + c') = nI (gu t X s' c')) → ∃ r', sE gfP r r' ∧ (∀ s' c', s' < t.n → c' ≤ bc (t.C s') → s' < s + 1 → r' 107 (8 * s' + c') = nI (gu t X s' c')) ∧ ∀ Q, wG (d + 52) 189 (24, [.ref 101, .int (nI s), .int (nI (bc (t.C s))), .int (nI c)], [], mkH E r) Q = wG (d + 52) 189 (2, [.ref 101, .int (nI (s + 1)), .int (nI (bc (t.C s))), .int (nI (bc (t.C s) + 1))], [], mkH E r') Q := by
    intro s hs k
    have h7 : s < 7 := by omega
    have hb := bc_le (t.C s)
    induction k with
    | zero =>
      intro c r hk hM hX hJ
      refine ⟨r, sE_rf, fun s' c' h1 h2 h3 => hJ s' c' h1 h2 (by
        rcases Nat.lt_or_ge s' s with q | q
        · exact Or.inl q
        · obtain rfl : s' = s := by omega
          exact Or.inr ⟨rfl, by omega⟩), fun Q => ?_⟩
      refine (sg_X10_findGuesses_24 (d := d + 52) s_E).trans ?_
      rw [if_pos (nI_lt (by omega) (by omega)), ← nI_succ]
      obtain rfl : c = bc (t.C s) + 1 := by omega
      rfl
    | succ k ih =>
      intro c r hk hM hX hJ
      have hc7 : c ≤ 7 := by omega
      obtain ⟨g1, g2⟩ := g8 s h7 c hc7
      have hix : ¬ (8 * nI s + nI c) < 0 ∧ (8 * nI s + nI c).toNatClampNeg < 56 := ⟨g2, by rw [g1]; omega⟩
      obtain ⟨r1, s1, e1⟩ := x_textGives (d := d + 1) (u := 0) (x := nI c) (y := nI (t.T s)) (z := nI (t.M s)) s_E (by decide) (xo 0 (by decide)) (hX 0 (by decide))
      have s1' : sE gfP r r1 := sE_mo s1 (fun a k h => by unfold gfP; omega)
      have hM1 := tM_s hM (gfS s1')
      have hX1 := xM_s hX (gfS s1')
      have s2 : sE gfP r1 (uI r1 107 (8 * s + c) (nI (gu t X s c))) := sE_u (Or.inl rfl)
      obtain ⟨r3, s3, j3, e3⟩ := ih (c + 1) (uI r1 107 (8 * s + c) (nI (gu t X s c))) (by omega) (tM_s hM1 (gfS s2)) (xM_s hX1 (gfS s2)) (fun s' c' h1 h2 h3 => by
        have hb' := bc_le (t.C s')
        rw [uI_at]
        by_cases q : s' = s ∧ c' = c
        · rw [q.1, q.2, if_pos ⟨rfl, rfl⟩]
        · rw [if_neg (by omega), s1 _ _ (by omega)]
          exact hJ s' c' h1 h2 (by omega))
      refine ⟨r3, sE_tr s1' (sE_tr s2 s3), j3, fun Q => ?_⟩
      refine (sg_X10_findGuesses_24 (d := d + 52) s_E).trans ?_
      rw [if_neg (nI_nlt (by omega) (by omega))]
      refine (x_its (w := 3) s_E h7 (by decide)).trans ?_
      rw [hM.T s hs]
      refine (sg_X10_findGuesses_48 (d := d + 52) s_E).trans ?_
      refine (x_its (w := 1) s_E h7 (by decide)).trans ?_
      rw [hM.M s hs]
      refine (sg_X10_findGuesses_54 (d := d + 52) s_E).trans ?_
      refine (e1 _).trans ?_
      rw [gN_v.1]
      refine (sg_X10_findGuesses_57 (d := d + 52) s_E (fun _ => hix)).trans ?_
      have hp : (0 < nI c) = (0 < c) := propext (nI_ltI (a := 0) (by decide) (by omega))
      simp only [hp]
      by_cases h : 0 < c
      · rw [if_pos h]
        refine (x_X10_shock (d := d + 50) s_E ⟨(its_at (w := 1) h7 (by decide)).2, ?_⟩ ⟨(its_at (w := 0) h7 (by decide)).2, ?_⟩).trans ?_
        · rw [show (1 : Int32) = nI 1 from rfl, (its_at h7 (by decide)).1]; omega
        · rw [show (0 : Int32) = nI 0 from rfl, (its_at h7 (by decide)).1]; omega
        rw [sh_M ok hM1 hs]
        refine (sg_X10_findGuesses_66 (d := d + 52) s_E hix).trans ?_
        rw [g1, nI_add, ← nI_succ]
        have e : gN X (nI c) (nI (t.T s)) (nI (t.M s)) + sh t s = gu t X s c := by unfold gu; rw [if_pos h]
        rw [e]
        exact e3 Q
      · rw [if_neg h, g1, ← nI_succ]
        have e : nI (gN X (nI c) (nI (t.T s)) (nI (t.M s))) + 0 = nI (gu t X s c) := by
          unfold gu
          rw [if_neg h, show (0 : Int32) = nI 0 from rfl, nI_add]
        rw [e]
        exact e3 Q
  have outer : ∀ k s r v2 v3, s + k = t.n → tM t r → xM X r → (∀ s' c', s' < t.n → c' ≤ bc (t.C s') → s' < s → r 107 (8 * s' + c') = nI (gu t X s' c')) → ∃ r', sE gfP r r' ∧ guT t X r' ∧ ∀ Q, wG (d + 52) 189 (2, [.ref 101, .int (nI s), v2, v3], [], mkH E r) Q = Q none (mkH E r') := by
    intro k
    induction k with
    | zero =>
      intro s r v2 v3 hk hM hX hJ
      refine ⟨r, sE_rf, fun s' c' h1 h2 => hJ s' c' h1 h2 (by omega), fun Q => ?_⟩
      refine (sg_X10_findGuesses_2 (d := d + 52) s_E).trans ?_
      rw [hM.n, if_neg (nI_nlt (by omega) (by omega))]
    | succ k ih =>
      intro s r v2 v3 hk hM hX hJ
      have hs : s < t.n := by omega
      have h7 : s < 7 := by omega
      obtain ⟨r1, s1, j1, e1⟩ := inner s hs (bc (t.C s) + 1) 0 r (by omega) hM hX (fun s' c' h1 h2 h3 => hJ s' c' h1 h2 (by omega))
      obtain ⟨r2, s2, j2, e2⟩ := ih (s + 1) r1 (.int (nI (bc (t.C s)))) (.int (nI (bc (t.C s) + 1))) (by omega) (tM_s hM (gfS s1)) (xM_s hX (gfS s1)) j1
      refine ⟨r2, sE_tr s1 s2, j2, fun Q => ?_⟩
      refine (sg_X10_findGuesses_2 (d := d + 52) s_E).trans ?_
      rw [hM.n, if_pos (nI_lt hs (by omega))]
      refine (x_its (w := 2) s_E h7 (by decide)).trans ?_
      rw [hM.C s hs]
      refine (sg_X10_findGuesses_18 (d := d + 52) s_E).trans ?_
      refine (x_X10_ones s_E (C128 ok hs)).trans ?_
      refine (sg_X10_findGuesses_21 (d := d + 52) s_E).trans ?_
      refine (e1 Q).trans ?_
      exact e2 Q
  obtain ⟨r', s1, j1, e1⟩ := outer t.n 0 r (.retAddr 0) (.retAddr 0) (by omega) hM hX (fun s' c' h1 h2 h3 => by omega)
  refine ⟨r', s1, j1, fun Q => ?_⟩
  refine (en_X10_findGuesses (d := d + 52) s_E).trans ?_
  exact e1 Q
theorem bc_an {C : Nat} (hC : C < 128) (g : Nat) : bc (an C g) ≤ bc C := by
  have h : ∀ c, c < 128 → ∀ C, C < 128 → bc (C &&& c) ≤ bc C := by decide +kernel
  have e : an C g = C &&& ((127 ^^^ g) % 128) := by
    unfold an
    refine Nat.eq_of_testBit_eq (fun i => ?_)
    rw [Nat.testBit_and, Nat.testBit_and, show 128 = 2 ^ 7 from rfl, Nat.testBit_mod_two_pow]
    by_cases q : i < 7
    · simp [q]
    · have : C.testBit i = false := Nat.testBit_lt_two_pow (Nat.lt_of_lt_of_le hC (show 2 ^ 7 ≤ 2 ^ i from Nat.pow_le_pow_right (by decide) (by omega)))
      simp [this]
  rw [e]
  exact h _ (Nat.mod_lt _ (by decide)) C hC
theorem x_guessAtM (s_E : oE E) (ok : tOK t) (hM : tM t r) (hT : guT t X r) {o : Nat → Nat} (hr : rW t o r) {p g : Nat} (hp : p < t.n) (hg : g < 128) : wX (d + 2) 190 [.ref 101, .int (nI p), .int (nI g)] (mkH E r) Q = Q (some (.int (nI (gu t X (o p) (bc (an (t.C (o p)) g)))))) (mkH E r) := by
  have hn := ok.n
  obtain ⟨h1, h2⟩ := hr p hp
  have h7 : o p < 7 := by omega
  have hC := C128 ok h2
  refine (en_X10_guessAt (d := d + 1) s_E (ix_n (show p < 7 by omega) (by decide))).trans ?_
  rw [nI_clamp (by omega), h1]
  refine (x_its (w := 2) s_E h7 (by decide)).trans ?_
  rw [hM.C _ h2]
  refine (sg_X10_guessAt_21 (d := d + 1) s_E).trans ?_
  rw [an_t hC hg]
  refine (x_X10_ones s_E (an_lt hC)).trans ?_
  obtain ⟨g1, g2⟩ := g8 (o p) h7 _ (bc_le (an (t.C (o p)) g))
  refine (sg_X10_guessAt_28 (d := d + 1) s_E ⟨g2, ?_⟩).trans ?_
  · rw [g1]; have := bc_le (an (t.C (o p)) g); omega
  rw [g1, hT _ _ h2 (bc_an hC g)]
theorem x_guessedOfRow (s_E : oE E) (ok : tOK t) (hM : tM t r) (hT : guT t X r) {o : Nat → Nat} (hr : rW t o r) : wX (d + 3) 191 [.ref 101] (mkH E r) Q = Q (some (.int (nI (gs t X o)))) (mkH E r) := by
  have hn := ok.n
  refine (en_X10_guessedOfRow (d := d + 2) s_E).trans ?_
  have key : ∀ k i (a : Nat × Nat), i + k = t.n → a.2 < 128 → wG (d + 2) 191 (6, [.ref 101, .int (nI a.1), .int (nI a.2), .int (nI i)], [], mkH E r) Q = Q (some (.int (nI (it (fun k a => gs1 t X (o k) a) k i a).1))) (mkH E r) := by
    intro k
    induction k with
    | zero =>
      intro i a hi ha
      rw [sg_X10_guessedOfRow_6 s_E, hM.n, if_neg (nI_nlt (by omega) (by omega))]
      rfl
    | succ k ih =>
      intro i a hi ha
      have hit : i < t.n := by omega
      obtain ⟨h1, h2⟩ := hr i hit
      have h7 : o i < 7 := by omega
      rw [sg_X10_guessedOfRow_6 s_E, hM.n, if_pos (nI_lt hit (by omega))]
      refine (x_guessAtM (d := d) s_E ok hM hT hr hit ha).trans ?_
      refine (sg_X10_guessedOfRow_23 (d := d + 2) s_E (ix_n (show i < 7 by omega) (by decide))).trans ?_
      rw [nI_clamp (by omega), h1, nI_add, sh31 (by omega), show (1 : Int32) = nI 1 from rfl, nI_shl (by omega), ← nI_or, nI_add]
      exact ih (i + 1) (gs1 t X (o i) a) (by omega) (or7 ha (sl_lt h7))
  exact key t.n 0 (0, 0) (by omega) (by decide)
theorem rW_s {o : Nat → Nat} (hr : rW t o r) (s : ∀ k, r' 106 k = r 106 k) : rW t o r' := fun k hk => ⟨(s k).trans (hr k hk).1, (hr k hk).2⟩
theorem x_guessedM (s_E : oE E) (ok : tOK t) (hM : tM t r) (xo : xOK X) (hX : xM X r) : ∃ r', sE SM r r' ∧ ∀ Q, wX (d + 54) 193 [.ref 101] (mkH E r) Q = Q (some (.int (nI (gs t X t.o)))) (mkH E r') := by
  obtain ⟨r1, s1, w1, e1⟩ := x_rowAsGiven (d := d + 52) s_E ok hM
  have s1' : sE SM r r1 := sE_mo s1 (fun a k h => by unfold SM; omega)
  obtain ⟨r2, s2, g2, e2⟩ := x_findGuesses (d := d) s_E ok (tM_s hM s1') xo (xM_s hX s1')
  refine ⟨r2, sE_tr s1' (gfS s2), fun Q => ?_⟩
  refine (en_X10_guessed (d := d + 53) s_E).trans ?_
  refine (e1 _).trans ?_
  refine (sg_X10_guessed_4 (d := d + 53) s_E).trans ?_
  refine (e2 _).trans ?_
  refine (sg_X10_guessed_8 (d := d + 53) s_E).trans ?_
  refine (x_guessedOfRow (d := d + 50) s_E ok (tM_s (tM_s hM s1') (gfS s2)) g2 (rW_s w1 (fun k => s2 _ _ (by unfold gfP; omega)))).trans ?_
  exact sg_X10_guessed_12 (d := d + 53) s_E
theorem x_handsM (s_E : oE E) (ok : tOK t) (hM : tM t r) : ∃ r', sE SM r r' ∧ ∀ Q, wX (d + 3) 194 [.ref 101] (mkH E r) Q = Q (some (.int (nI (hsR t t.o).1))) (mkH E r') := by
  obtain ⟨r1, s1, w1, e1⟩ := x_rowAsGiven (d := d + 1) s_E ok hM
  have s1' : sE SM r r1 := sE_mo s1 (fun a k h => by unfold SM; omega)
  refine ⟨fR r1 108 4 (hsR t t.o).2, sE_tr s1' (fun a k h => fR_o_k (by unfold SM at h; omega)), fun Q => ?_⟩
  refine (en_X10_hands (d := d + 2) s_E).trans ?_
  refine (e1 _).trans ?_
  refine (sg_X10_hands_4 (d := d + 2) s_E).trans ?_
  refine (x_X10_handsOfRow (d := d) s_E ok (tM_s hM s1') w1).trans ?_
  exact sg_X10_hands_8 (d := d + 2) s_E
theorem x_guessOfM (s_E : oE E) (ok : tOK t) (hM : tM t r) (xo : xOK X) (hX : xM X r) {p : Nat} (hp : p < t.n) : ∃ r', sE SM r r' ∧ ∀ Q, wX (d + 54) 200 [.ref 101, .int (nI p)] (mkH E r) Q = Q (some (.int (nI (gAt t X t.o p)))) (mkH E r') := by
  have hn := ok.n
  obtain ⟨r1, s1, w1, e1⟩ := x_rowAsGiven (d := d + 52) s_E ok hM
  have s1' : sE SM r r1 := sE_mo s1 (fun a k h => by unfold SM; omega)
  obtain ⟨r2, s2, g2, e2⟩ := x_findGuesses (d := d) s_E ok (tM_s hM s1') xo (xM_s hX s1')
  have w2 : rW t t.o r2 := rW_s w1 (fun k => s2 _ _ (by unfold gfP; omega))
  have hM2 := tM_s (tM_s hM s1') (gfS s2)
  refine ⟨r2, sE_tr s1' (gfS s2), fun Q => ?_⟩
  refine (en_X10_guessOf (d := d + 53) s_E).trans ?_
  refine (e1 _).trans ?_
  refine (sg_X10_guessOf_4 (d := d + 53) s_E).trans ?_
  refine (e2 _).trans ?_
  refine (sg_X10_guessOf_8 (d := d + 53) s_E).trans ?_
  have key : ∀ k i a, i + k = p → a < 128 → wG (d + 53) 200 (12, [.ref 101, .int (nI p), .int (nI a), .int (nI i)], [], mkH E r2) Q = Q (some (.int (nI (gu t X (t.o p) (bc (an (t.C (t.o p)) (it (fun i a => a ||| 1 <<< t.o i) k i a))))))) (mkH E r2) := by
    intro k
    induction k with
    | zero =>
      intro i a hi ha
      have hlt : ¬ nI i < nI p := nI_nlt (by omega) (by omega)
      refine (sg_X10_guessOf_12 (d := d + 53) s_E (fun h => absurd h hlt)).trans ?_
      rw [if_neg hlt]
      refine (x_guessAtM (d := d + 51) s_E ok hM2 g2 w2 hp ha).trans ?_
      exact sg_X10_guessOf_40 (d := d + 53) s_E
    | succ k ih =>
      intro i a hi ha
      have h1 := w2 i (by omega)
      have h7 : t.o i < 7 := by omega
      refine (sg_X10_guessOf_12 (d := d + 53) s_E (fun _ => ix_n (show i < 7 by omega) (by decide))).trans ?_
      rw [if_pos (nI_lt (by omega) (by omega)), nI_clamp (by omega), h1.1, sh31 (by omega), show (1 : Int32) = nI 1 from rfl, nI_shl (by omega), ← nI_or, nI_add]
      exact ih (i + 1) _ (by omega) (or7 ha (sl_lt h7))
  exact key p 0 0 (by omega) (by decide)
end GM
