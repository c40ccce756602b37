/-! the class weighs what is guessed -/
def wg (t : Th) (X : Tx) (g s : Nat) : Nat := gu t X s (bc (an (t.C s) g))
def vlo (t : Th) (X : Tx) : Nat → Nat → Nat
  | 0, _ => 0
  | m + 1, g => it (fun s a => if bt g s = 0 then (if wg t X g s + vlo t X m (g ||| 1 <<< s) < a then wg t X g s + vlo t X m (g ||| 1 <<< s) else a) else a) t.n 0 9999
def vhi (t : Th) (X : Tx) : Nat → Nat → Nat
  | 0, _ => 0
  | m + 1, g => it (fun s a => if bt g s = 0 then (if a < wg t X g s + vhi t X m (g ||| 1 <<< s) then wg t X g s + vhi t X m (g ||| 1 <<< s) else a) else a) t.n 0 0
def vL (t : Th) (X : Tx) (g : Nat) : Nat := vlo t X (t.n - bc g) g
def vM (t : Th) (X : Tx) (g : Nat) : Nat := vhi t X (t.n - bc g) g
def czz (r : Nat → Nat → Int32) : Prop := r 66 1 = nI 49 ∧ r 68 1 = nI 128 ∧ r 70 1 = nI 128 ∧ r 72 1 = nI 896 ∧ r 74 1 = nI 4
def agT (t : Th) (X : Tx) (r : Nat → Nat → Int32) : Prop := ∀ s c, s < t.n → c ≤ s → r 67 (s * 7 + c) = nI (gu t X s c)
theorem i7 : ∀ s, s < 128 → ∀ c, c < 8 → nI s * 7 + nI c = nI (s * 7 + c) := by decide +kernel
theorem bcF0 : ∀ n, n < 8 → ∀ g, g < 2 ^ n → ∀ s, s < n → (!(Nat.beq (bt g s) 0) || (Nat.beq (bc (g ||| 1 <<< s)) (bc g + 1) && (Nat.blt (g ||| 1 <<< s) (2 ^ n) && Nat.blt g (g ||| 1 <<< s)))) = true := by decide +kernel
theorem bcF (n : Nat) (hn : n < 8) (g : Nat) (hg : g < 2 ^ n) (s : Nat) (hs : s < n) (hb : bt g s = 0) : bc (g ||| 1 <<< s) = bc g + 1 ∧ g ||| 1 <<< s < 2 ^ n ∧ g < g ||| 1 <<< s := by
  have h := bcF0 n hn g hg s hs
  rw [hb] at h
  simp only [Nat.beq_eq_true_eq, Bool.or_eq_true, Bool.and_eq_true, Nat.blt_eq, Nat.beq_refl, Bool.not_true, Bool.false_eq_true, false_or] at h
  exact ⟨Nat.eq_of_beq_eq_true (by simpa using h.1), h.2.1, h.2.2⟩
theorem bcN : ∀ n, n < 8 → ∀ g, g < 2 ^ n → bc g ≤ n ∧ (g = 2 ^ n - 1 ∨ bc g < n) := by decide +kernel
theorem bcA : ∀ n, n < 8 → bc (2 ^ n - 1) = n := by decide +kernel
theorem bcC : ∀ s, s < 7 → ∀ C, C < 2 ^ s → bc C ≤ s := by decide +kernel
theorem bcE : ∀ n, n < 8 → ∀ g, g < 2 ^ n → bc g < n → ∃ s, s < n ∧ bt g s = 0 := by decide +kernel
section CW
variable {d : Nat} {E : pEv} {r r' : Nat → Nat → Int32} {Q : Option Value → pH → Prop} {t : Th} {X : Tx}
theorem p2n (ok : tOK t) : 2 ^ t.n ≤ 128 := p128 ok
theorem czz_s (h : czz r) (s : sE SC r r') : czz r' := by
  obtain ⟨h1, h2, h3, h4, h5⟩ := h
  refine ⟨?_, ?_, ?_, ?_, ?_⟩ <;> rw [s _ _ (by unfold SC; omega)] <;> assumption
theorem all_C (ok : tOK t) (hC : tC t r) : f_X2_all r = nI (2 ^ t.n - 1) := by
  have : ∀ n, n < 8 → ((1 : Int32) <<< (nI n &&& 31)) - 1 = nI (2 ^ n - 1) := by decide +kernel
  unfold f_X2_all
  rw [hC.n]
  exact this t.n (by have := ok.n; omega)
theorem has_t {g s : Nat} (hg : g < 128) (hs : s < 7) : f_X0_has (nI g) (nI s) = if bt g s = 0 then 0 else 1 := by
  unfold f_X0_has
  rw [sh31 (by omega), nI_bt hg hs]
  have := @bt_le g s
  by_cases h : bt g s = 0
  · rw [h, if_pos rfl, if_neg (by decide)]
  · have h1 : bt g s = 1 := by omega
    rw [h1, if_pos (show nI 1 = 1 from rfl), if_neg (by decide)]
theorem gu_le (ok : tOK t) {s c : Nat} (hs : s < t.n) : gu t X s c ≤ 113 := by
  have h1 := (gN_v (X := X) (x := nI c) (y := nI (t.T s)) (z := nI (t.M s))).2
  have h2 := ok.M s hs
  have h3 : sh t s ≤ 14 := by
    unfold sh
    (repeat' split) <;> omega
  unfold gu
  split <;> omega
theorem wg_le (ok : tOK t) {g s : Nat} (hs : s < t.n) : wg t X g s ≤ 113 := gu_le ok hs
theorem an_s (ok : tOK t) {g s : Nat} (hs : s < t.n) : bc (an (t.C s) g) ≤ s :=
  Nat.le_trans (bc_an (C128 ok hs) g) (bcC s (by have := ok.n; omega) _ (ok.C s hs))
theorem vlo_le : ∀ m g, vlo t X m g ≤ 9999 := by
  intro m
  cases m with
  | zero => intro g; exact Nat.zero_le _
  | succ m =>
    intro g
    refine it_inv (n := t.n) (J := fun _ b => b ≤ 9999) (fun s a hs ha => ?_) (Nat.le_refl _) t.n (Nat.le_refl _)
    show (if bt g s = 0 then _ else a) ≤ 9999
    split
    · split <;> omega
    · exact ha
theorem vhi_le (ok : tOK t) : ∀ m g, vhi t X m g ≤ m * 113 := by
  intro m
  induction m with
  | zero => intro g; exact Nat.zero_le _
  | succ m ih =>
    intro g
    refine it_inv (n := t.n) (J := fun _ b => b ≤ (m + 1) * 113) (fun s a hs ha => ?_) (Nat.zero_le _) t.n (Nat.le_refl _)
    have h1 := wg_le (X := X) (g := g) ok hs
    have h2 := ih (g ||| 1 <<< s)
    show (if bt g s = 0 then _ else a) ≤ (m + 1) * 113
    split
    · split <;> omega
    · exact ha
theorem vM_le (ok : tOK t) (g : Nat) : vM t X g ≤ 791 := by
  have := vhi_le (X := X) ok (t.n - bc g) g
  have := ok.n
  unfold vM
  omega
theorem vL_le (g : Nat) : vL t X g ≤ 9999 := vlo_le _ _
theorem x_askGuesses (s_E : oE E) (ok : tOK t) (hC : tC t r) (xo : xOK X) (hX : xC X r) (hz : czz r) : ∃ r', sE SC r r' ∧ agT t X r' ∧ ∀ Q, wX (d + 6) 3 [.ref 65] (mkH E r) Q = Q none (mkH E r') := by
  have hn := ok.n
  have inner : ∀ s, s < t.n → ∀ k c r, c + k = s + 1 → tC t r → xC X r → czz r → (∀ s' c', s' < t.n → c' ≤ s' → (s' < s ∨ s' = s ∧ c' < c) → r 67 (s' * 7 + c') = nI (gu t X s' c')) → ∃ r', sE SC r r' ∧ (∀ s' c', s' < t.n → c' ≤ s' → s' < s + 1 → r' 67 (s' * 7 + c') = nI (gu t X s' c')) ∧ ∀ Q, wG (d + 5) 3 (15, [.ref 65, .int (nI s), .int (nI c)], [], mkH E r) Q = wG (d + 5) 3 (2, [.ref 65, .int (nI (s + 1)), .int (nI (s + 1))], [], mkH E r') Q := by
    intro s hs k
    have h7 : s < 7 := by omega
    induction k with
    | zero =>
      intro c r hk hC hX hz hJ
      obtain rfl : c = s + 1 := by omega
      refine ⟨r, sE_rf, fun s' c' h1 h2 h3 => hJ s' c' h1 h2 (by omega), fun Q => ?_⟩
      refine (sg_X0_askGuesses_15 (d := d + 5) s_E).trans ?_
      rw [if_pos (nI_lt (by omega) (by omega)), ← nI_succ]
    | succ k ih =>
      intro c r hk hC hX hz hJ
      obtain ⟨r1, s1, e1⟩ := x_guessOf (d := d) (X := X) (s := s) (c := c) s_E ok hC xo hX hs (by omega)
      have hz1 := czz_s hz (w23 s1)
      have s2 : sE SC r1 (uI r1 67 (s * 7 + c) (nI (gu t X s c))) := sE_u (by unfold SC; omega)
      obtain ⟨r3, s3, j3, e3⟩ := ih (c + 1) (uI r1 67 (s * 7 + c) (nI (gu t X s c))) (by omega) (tC_s (tC_s hC hn (w23 s1)) hn s2) (xC_s (xC_s hX (w23 s1)) s2) (czz_s hz1 s2) (fun s' c' h1 h2 h3 => by
        rw [uI_at]
        by_cases q : s' = s ∧ c' = c
        · rw [q.1, q.2, if_pos ⟨rfl, rfl⟩]
        · rw [if_neg (by omega), s1 _ _ (by unfold wP; omega)]
          exact hJ s' c' h1 h2 (by omega))
      refine ⟨r3, sE_tr (w23 s1) (sE_tr s2 s3), j3, fun Q => ?_⟩
      refine (sg_X0_askGuesses_15 (d := d + 5) s_E).trans ?_
      rw [if_neg (nI_nlt (by omega) (by omega)), i7 s (by omega) c (by omega)]
      refine (e1 _).trans ?_
      refine (sg_X0_askGuesses_39 (d := d + 5) s_E).trans ?_
      refine (x_X4_change (d := d + 4) (c_h0 := 49) s_E (oR rfl)).trans ?_
      rw [change_in (s := 49) ⟨hz1.1, by decide, by decide⟩ (by omega)]
      refine (sg_X0_askGuesses_42 (d := d + 5) s_E).trans ?_
      rw [← nI_succ]
      exact e3 Q
  have outer : ∀ k s r v2, s + k = t.n → tC t r → xC X r → czz r → (∀ s' c', s' < t.n → c' ≤ s' → s' < s → r 67 (s' * 7 + c') = nI (gu t X s' c')) → ∃ r', sE SC r r' ∧ agT t X r' ∧ ∀ Q, wG (d + 5) 3 (2, [.ref 65, .int (nI s), v2], [], mkH E r) Q = Q none (mkH E r') := by
    intro k
    induction k with
    | zero =>
      intro s r v2 hk hC hX hz hJ
      refine ⟨r, sE_rf, fun s' c' h1 h2 => hJ s' c' h1 h2 (by omega), fun Q => ?_⟩
      refine (sg_X0_askGuesses_2 (d := d + 5) s_E).trans ?_
      rw [hC.n, if_neg (nI_nlt (by omega) (by omega))]
    | succ k ih =>
      intro s r v2 hk hC hX hz hJ
      have hs : s < t.n := by omega
      obtain ⟨r1, s1, j1, e1⟩ := inner s hs (s + 1) 0 r (by omega) hC hX hz (fun s' c' h1 h2 h3 => hJ s' c' h1 h2 (by omega))
      obtain ⟨r2, s2, j2, e2⟩ := ih (s + 1) r1 (.int (nI (s + 1))) (by omega) (tC_s hC hn s1) (xC_s hX s1) (czz_s hz s1) j1
      refine ⟨r2, sE_tr s1 s2, j2, fun Q => ?_⟩
      refine (sg_X0_askGuesses_2 (d := d + 5) s_E).trans ?_
      rw [hC.n, if_pos (nI_lt hs (by omega))]
      refine (e1 Q).trans ?_
      exact e2 Q
  obtain ⟨r', s1, j1, e1⟩ := outer t.n 0 r (.retAddr 0) (by omega) hC hX hz (fun s' c' h1 h2 h3 => by omega)
  refine ⟨r', s1, j1, fun Q => ?_⟩
  refine (en_X0_askGuesses (d := d + 5) s_E).trans ?_
  exact e1 Q
theorem ga_t (ok : tOK t) (hC : tC t r) (hz : czz r) (hA : agT t X r) {g s : Nat} (hg : g < 128) (hs : s < t.n) : f_X0_guessAfter r (nI g) (nI s) = nI (wg t X g s) := by
  have hn := ok.n
  have h7 : s < 7 := by omega
  have hb := an_s (g := g) ok hs
  unfold f_X0_guessAfter
  rw [sc_at h7, hC.C s hs, an_t (C128 ok hs) hg, nI_bc (an_lt (C128 ok hs)), i7 s (by omega) _ (by omega), at_in (s := 49) ⟨hz.1, by decide, by decide⟩ (by omega), hA s _ hs hb]
  rfl
def wvP : Nat → Nat → Prop := fun a _ => a = 69 ∨ a = 71
theorem wvS (s : sE wvP r r') : sE SC r r' := sE_mo s (fun a k h => by unfold wvP at h; unfold SC; omega)
theorem agT_s (h : agT t X r) (s : ∀ k, r' 67 k = r 67 k) : agT t X r' := fun q c h1 h2 => (s _).trans (h q c h1 h2)
/-- least and most behind each set -/
def vT (t : Th) (X : Tx) (a : Nat) (r : Nat → Nat → Int32) : Prop := ∀ g, a ≤ g → g < 2 ^ t.n → r 69 g = nI (vL t X g) ∧ r 71 g = nI (vM t X g)
theorem x_weighGuesses (s_E : oE E) (ok : tOK t) (hC : tC t r) (hz : czz r) (hA : agT t X r) : ∃ r', sE wvP r r' ∧ vT t X 0 r' ∧ ∀ Q, wX (d + 4) 5 [.ref 65] (mkH E r) Q = Q none (mkH E r') := by
  have hn := ok.n
  have h2n := p128 ok
  have hpos := Nat.two_pow_pos t.n
  have inner : ∀ g m, g < 2 ^ t.n → t.n - bc g = m + 1 → ∀ r, tC t r → czz r → agT t X r → vT t X (g + 1) r → ∀ k s lo hi v6 v7, s + k = t.n → lo ≤ 9999 → hi ≤ 9999 → ∃ w6 w7, ∀ Q, wG (d + 3) 5 (44, [.ref 65, .int (nI (2 ^ t.n - 1)), .int (nI g), .int (nI lo), .int (nI hi), .int (nI s), v6, v7], [], mkH E r) Q = wG (d + 3) 5 (44, [.ref 65, .int (nI (2 ^ t.n - 1)), .int (nI g), .int (nI (it (fun s a => if bt g s = 0 then (if wg t X g s + vlo t X m (g ||| 1 <<< s) < a then wg t X g s + vlo t X m (g ||| 1 <<< s) else a) else a) k s lo)), .int (nI (it (fun s a => if bt g s = 0 then (if a < wg t X g s + vhi t X m (g ||| 1 <<< s) then wg t X g s + vhi t X m (g ||| 1 <<< s) else a) else a) k s hi)), .int (nI t.n), w6, w7], [], mkH E r) Q := by
    intro g m hg hm r hC hz hA hT k
    induction k with
    | zero =>
      intro s lo hi v6 v7 hk _ _
      obtain rfl : s = t.n := by omega
      exact ⟨v6, v7, fun Q => rfl⟩
    | succ k ih =>
      intro s lo hi v6 v7 hk hlo hhi
      have hs : s < t.n := by omega
      have h7 : s < 7 := by omega
      have hg128 : g < 128 := by omega
      have pre : ∀ Q, wG (d + 3) 5 (44, [.ref 65, .int (nI (2 ^ t.n - 1)), .int (nI g), .int (nI lo), .int (nI hi), .int (nI s), v6, v7], [], mkH E r) Q = if bt g s = 0 then wX (d + 3) 4 [.ref 65, .int (nI g), .int (nI s)] (mkH E r) (fun v h' => wG (d + 3) 5 (80, [.ref 65, .int (nI (2 ^ t.n - 1)), .int (nI g), .int (nI lo), .int (nI hi), .int (nI s), .int (nI (g ||| 1 <<< s)), v7], pv v [], h') Q) else wG (d + 3) 5 (44, [.ref 65, .int (nI (2 ^ t.n - 1)), .int (nI g), .int (nI lo), .int (nI hi), .int (nI (s + 1)), v6, v7], [], mkH E r) Q := by
        intro Q
        refine (sg_X0_weighGuesses_44 (d := d + 3) s_E).trans ?_
        rw [hC.n, if_pos (nI_lt hs (by omega))]
        refine (x_X0_has (d := d + 2) s_E).trans ?_
        rw [has_t hg128 h7]
        refine (sg_X0_weighGuesses_62 (d := d + 3) s_E).trans ?_
        rw [sh31 (by omega), show (1 : Int32) = nI 1 from rfl, nI_shl (by omega), ← nI_or, nI_add]
        by_cases hb : bt g s = 0
        · rw [if_pos hb, if_pos rfl, if_pos hb]
        · rw [if_neg hb, if_neg (by decide), if_neg hb]
      by_cases hb : bt g s = 0
      · obtain ⟨b1, b2, b3⟩ := bcF t.n (by omega) g hg s hs hb
        have hT1 := hT (g ||| 1 <<< s) (by omega) b2
        have eL : vL t X (g ||| 1 <<< s) = vlo t X m (g ||| 1 <<< s) := by unfold vL; rw [b1, show t.n - (bc g + 1) = m by omega]
        have eM : vM t X (g ||| 1 <<< s) = vhi t X m (g ||| 1 <<< s) := by unfold vM; rw [b1, show t.n - (bc g + 1) = m by omega]
        have w1 := wg_le (X := X) (g := g) ok hs
        have w2 := vlo_le (t := t) (X := X) m (g ||| 1 <<< s)
        have w3 := vhi_le (X := X) ok m (g ||| 1 <<< s)
        have w4 : m ≤ 7 := by omega
        have l1 : (if wg t X g s + vlo t X m (g ||| 1 <<< s) < lo then wg t X g s + vlo t X m (g ||| 1 <<< s) else lo) ≤ 9999 := by split <;> omega
        have l2 : (if hi < wg t X g s + vhi t X m (g ||| 1 <<< s) then wg t X g s + vhi t X m (g ||| 1 <<< s) else hi) ≤ 9999 := by split <;> omega
        obtain ⟨w6, w7, e⟩ := ih (s + 1) _ _ (.int (nI (g ||| 1 <<< s))) (.int (nI (wg t X g s))) (by omega) l1 l2
        refine ⟨w6, w7, fun Q => ?_⟩
        rw [pre, if_pos hb]
        refine (x_X0_guessAfter (d := d + 1) s_E).trans ?_
        rw [ga_t ok hC hz hA hg128 hs]
        refine (sg_X0_weighGuesses_80 (d := d + 3) s_E).trans ?_
        refine (x_X4_at (d := d + 2) (c_h0 := 128) s_E (oR rfl)).trans ?_
        rw [at_in (s := 128) ⟨hz.2.1, by decide, by decide⟩ (by omega), hT1.1, eL]
        refine (sg_X0_weighGuesses_94 (d := d + 3) s_E).trans ?_
        refine (x_X4_at (d := d + 2) (c_h0 := 128) s_E (oR rfl)).trans ?_
        rw [at_in (s := 128) ⟨hz.2.2.1, by decide, by decide⟩ (by omega), hT1.2, eM]
        refine (sg_X0_weighGuesses_112 (d := d + 3) s_E).trans ?_
        have c1 : (if nI (wg t X g s) + nI (vlo t X m (g ||| 1 <<< s)) < nI lo then nI (wg t X g s) + nI (vlo t X m (g ||| 1 <<< s)) else nI lo) = nI (if wg t X g s + vlo t X m (g ||| 1 <<< s) < lo then wg t X g s + vlo t X m (g ||| 1 <<< s) else lo) := by
          rw [nI_add]
          have e : (nI (wg t X g s + vlo t X m (g ||| 1 <<< s)) < nI lo) = (wg t X g s + vlo t X m (g ||| 1 <<< s) < lo) := propext (nI_ltI (by omega) (by omega))
          simp only [e]
          split <;> rfl
        have c2 : (if nI hi < nI (wg t X g s) + nI (vhi t X m (g ||| 1 <<< s)) then nI (wg t X g s) + nI (vhi t X m (g ||| 1 <<< s)) else nI hi) = nI (if hi < wg t X g s + vhi t X m (g ||| 1 <<< s) then wg t X g s + vhi t X m (g ||| 1 <<< s) else hi) := by
          rw [nI_add]
          have e : (nI hi < nI (wg t X g s + vhi t X m (g ||| 1 <<< s))) = (hi < wg t X g s + vhi t X m (g ||| 1 <<< s)) := propext (nI_ltI (by omega) (by omega))
          simp only [e]
          split <;> rfl
        rw [c1, c2, ← nI_succ]
        refine (e Q).trans ?_
        show _ = wG (d + 3) 5 (44, [.ref 65, .int (nI (2 ^ t.n - 1)), .int (nI g), .int (nI (it _ k (s + 1) (if bt g s = 0 then _ else lo))), .int (nI (it _ k (s + 1) (if bt g s = 0 then _ else hi))), .int (nI t.n), w6, w7], [], mkH E r) Q
        rw [if_pos hb, if_pos hb]
      · obtain ⟨w6, w7, e⟩ := ih (s + 1) lo hi v6 v7 (by omega) hlo hhi
        refine ⟨w6, w7, fun Q => ?_⟩
        rw [pre, if_neg hb]
        refine (e Q).trans ?_
        show _ = wG (d + 3) 5 (44, [.ref 65, .int (nI (2 ^ t.n - 1)), .int (nI g), .int (nI (it _ k (s + 1) (if bt g s = 0 then _ else lo))), .int (nI (it _ k (s + 1) (if bt g s = 0 then _ else hi))), .int (nI t.n), w6, w7], [], mkH E r) Q
        rw [if_neg hb, if_neg hb]
  have outer : ∀ a r v3 v4 v5 v6 v7, a < 2 ^ t.n → tC t r → czz r → agT t X r → vT t X a r → ∃ r', sE wvP r r' ∧ vT t X 0 r' ∧ ∀ Q, wG (d + 3) 5 (30, [.ref 65, .int (nI (2 ^ t.n - 1)), .int (nI a - 1), v3, v4, v5, v6, v7], [], mkH E r) Q = Q none (mkH E r') := by
    intro a
    induction a with
    | zero =>
      intro r v3 v4 v5 v6 v7 _ hC hz hA hT
      refine ⟨r, sE_rf, hT, fun Q => ?_⟩
      refine (sg_X0_weighGuesses_30 (d := d + 3) s_E).trans ?_
      rw [if_pos (by decide)]
    | succ g ih =>
      intro r v3 v4 v5 v6 v7 hg1 hC hz hA hT
      have hg : g < 2 ^ t.n := by omega
      have hbn := bcN t.n (by omega) g hg
      obtain ⟨m, hm⟩ : ∃ m, t.n - bc g = m + 1 := ⟨t.n - bc g - 1, by omega⟩
      obtain ⟨w6, w7, e⟩ := inner g m hg hm r hC hz hA hT t.n 0 9999 0 v6 v7 (by omega) (by omega) (by omega)
      have eL : vL t X g = it (fun s a => if bt g s = 0 then (if wg t X g s + vlo t X m (g ||| 1 <<< s) < a then wg t X g s + vlo t X m (g ||| 1 <<< s) else a) else a) t.n 0 9999 := by unfold vL; rw [hm]; rfl
      have eM : vM t X g = it (fun s a => if bt g s = 0 then (if a < wg t X g s + vhi t X m (g ||| 1 <<< s) then wg t X g s + vhi t X m (g ||| 1 <<< s) else a) else a) t.n 0 0 := by unfold vM; rw [hm]; rfl
      rw [← eL, ← eM] at e
      have s1 : sE wvP r (uI (uI r 69 g (nI (vL t X g))) 71 g (nI (vM t X g))) := sE_tr (sE_u (Or.inl rfl)) (sE_u (Or.inr rfl))
      obtain ⟨r2, s2, j2, e2⟩ := ih (uI (uI r 69 g (nI (vL t X g))) 71 g (nI (vM t X g))) (.int (nI (vL t X g))) (.int (nI (vM t X g))) (.int (nI t.n)) w6 w7 hg (tC_s hC hn (wvS s1)) (czz_s hz (wvS s1)) (agT_s hA (fun k => by rw [uI_at, if_neg (by omega), uI_at, if_neg (by omega)])) (fun g' h1 h2 => by
        rw [uI_at, uI_at, uI_at, uI_at]
        by_cases q : g' = g
        · subst q
          exact ⟨by rw [if_neg (by omega), if_pos ⟨rfl, rfl⟩], by rw [if_pos ⟨rfl, rfl⟩]⟩
        · have := hT g' (by omega) h2
          exact ⟨by rw [if_neg (by omega), if_neg (by omega)]; exact this.1, by rw [if_neg (by omega), if_neg (by omega)]; exact this.2⟩)
      refine ⟨r2, sE_tr s1 s2, j2, fun Q => ?_⟩
      rw [nI_pred]
      refine (sg_X0_weighGuesses_30 (d := d + 3) s_E).trans ?_
      rw [if_neg (nI_pos (by omega))]
      refine (e Q).trans ?_
      refine (sg_X0_weighGuesses_44 (d := d + 3) s_E).trans ?_
      rw [hC.n, if_neg (nI_nlt (Nat.le_refl _) (by omega))]
      refine (x_X4_change (d := d + 2) (c_h0 := 128) s_E (oR rfl)).trans ?_
      rw [change_in (s := 128) ⟨hz.2.1, by decide, by decide⟩ (by omega)]
      refine (sg_X0_weighGuesses_133 (d := d + 3) s_E).trans ?_
      refine (x_X4_change (d := d + 2) (c_h0 := 128) s_E (oR rfl)).trans ?_
      rw [change_in (s := 128) ⟨by rw [uI_at, if_neg (by omega)]; exact hz.2.2.1, by decide, by decide⟩ (by omega)]
      refine (sg_X0_weighGuesses_143 (d := d + 3) s_E).trans ?_
      rw [← Int32.sub_eq_add_neg]
      exact e2 Q
  have hall := bcA t.n (by omega)
  have s1 : sE wvP r (uI (uI r 69 (2 ^ t.n - 1) (nI 0)) 71 (2 ^ t.n - 1) (nI 0)) := sE_tr (sE_u (Or.inl rfl)) (sE_u (Or.inr rfl))
  obtain ⟨r2, s2, j2, e2⟩ := outer (2 ^ t.n - 1) (uI (uI r 69 (2 ^ t.n - 1) (nI 0)) 71 (2 ^ t.n - 1) (nI 0)) (.retAddr 0) (.retAddr 0) (.retAddr 0) (.retAddr 0) (.retAddr 0) (by omega) (tC_s hC hn (wvS s1)) (czz_s hz (wvS s1)) (agT_s hA (fun k => by rw [uI_at, if_neg (by omega), uI_at, if_neg (by omega)])) (fun g' h1 h2 => by
    obtain rfl : g' = 2 ^ t.n - 1 := by omega
    have e0 : vL t X (2 ^ t.n - 1) = 0 := by unfold vL; rw [hall, Nat.sub_self]; rfl
    have e1 : vM t X (2 ^ t.n - 1) = 0 := by unfold vM; rw [hall, Nat.sub_self]; rfl
    rw [e0, e1, uI_at, uI_at, uI_at, if_neg (by omega), if_pos ⟨rfl, rfl⟩, if_pos ⟨rfl, rfl⟩]
    exact ⟨rfl, rfl⟩)
  refine ⟨r2, sE_tr s1 s2, j2, fun Q => ?_⟩
  refine (en_X0_weighGuesses (d := d + 3) s_E).trans ?_
  refine (x_X2_all (d := d + 2) s_E).trans ?_
  rw [all_C ok hC]
  refine (sg_X0_weighGuesses_7 (d := d + 3) s_E).trans ?_
  refine (x_X4_change (d := d + 2) (c_h0 := 128) s_E (oR rfl)).trans ?_
  rw [change_in (s := 128) ⟨hz.2.1, by decide, by decide⟩ (by omega)]
  refine (sg_X0_weighGuesses_17 (d := d + 3) s_E).trans ?_
  refine (x_X4_change (d := d + 2) (c_h0 := 128) s_E (oR rfl)).trans ?_
  rw [change_in (s := 128) ⟨by rw [uI_at, if_neg (by omega)]; exact hz.2.2.1, by decide, by decide⟩ (by omega)]
  refine (sg_X0_weighGuesses_26 (d := d + 3) s_E).trans ?_
  exact e2 Q
end CW
