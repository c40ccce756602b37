/-! the class: the least guessed, and how many -/
section MN
variable {p : Nat → Bool} {f : Nat → Nat}
theorem itmin : ∀ k i a, it (fun s a => if p s = true then (if f s < a then f s else a) else a) k i a ≤ a ∧ (∀ s, i ≤ s → s < i + k → p s = true → it (fun s a => if p s = true then (if f s < a then f s else a) else a) k i a ≤ f s) ∧ (it (fun s a => if p s = true then (if f s < a then f s else a) else a) k i a = a ∨ ∃ s, i ≤ s ∧ s < i + k ∧ p s = true ∧ it (fun s a => if p s = true then (if f s < a then f s else a) else a) k i a = f s) := by
  intro k
  induction k with
  | zero => intro i a; exact ⟨Nat.le_refl _, fun s h1 h2 => by omega, Or.inl rfl⟩
  | succ k ih =>
    intro i a
    have e : it (fun s a => if p s = true then (if f s < a then f s else a) else a) (k + 1) i a = it (fun s a => if p s = true then (if f s < a then f s else a) else a) k (i + 1) (if p i = true then (if f i < a then f i else a) else a) := rfl
    rw [e]
    obtain ⟨h1, h2, h3⟩ := ih (i + 1) (if p i = true then (if f i < a then f i else a) else a)
    generalize it (fun s a => if p s = true then (if f s < a then f s else a) else a) k (i + 1) (if p i = true then (if f i < a then f i else a) else a) = v at h1 h2 h3 ⊢
    by_cases q : p i = true
    · rw [if_pos q] at h1 h3
      by_cases q2 : f i < a
      · rw [if_pos q2] at h1 h3
        refine ⟨by omega, fun s g1 g2 g3 => ?_, ?_⟩
        · by_cases q3 : s = i
          · rw [q3]; exact h1
          · exact h2 s (by omega) (by omega) g3
        · rcases h3 with h3 | ⟨s, g1, g2, g3⟩
          · exact Or.inr ⟨i, Nat.le_refl _, by omega, q, h3⟩
          · exact Or.inr ⟨s, by omega, by omega, g3⟩
      · rw [if_neg q2] at h1 h3
        refine ⟨h1, fun s g1 g2 g3 => ?_, ?_⟩
        · by_cases q3 : s = i
          · rw [q3]; omega
          · exact h2 s (by omega) (by omega) g3
        · rcases h3 with h3 | ⟨s, g1, g2, g3⟩
          · exact Or.inl h3
          · exact Or.inr ⟨s, by omega, by omega, g3⟩
    · rw [if_neg q] at h1 h3
      refine ⟨h1, fun s g1 g2 g3 => ?_, ?_⟩
      · by_cases q3 : s = i
        · rw [q3] at g3; exact absurd g3 q
        · exact h2 s (by omega) (by omega) g3
      · rcases h3 with h3 | ⟨s, g1, g2, g3⟩
        · exact Or.inl h3
        · exact Or.inr ⟨s, by omega, by omega, g3⟩
theorem itmax : ∀ k i a, a ≤ it (fun s a => if p s = true then (if a < f s then f s else a) else a) k i a ∧ (∀ s, i ≤ s → s < i + k → p s = true → f s ≤ it (fun s a => if p s = true then (if a < f s then f s else a) else a) k i a) := by
  intro k
  induction k with
  | zero => intro i a; exact ⟨Nat.le_refl _, fun s h1 h2 => by omega⟩
  | succ k ih =>
    intro i a
    have e : it (fun s a => if p s = true then (if a < f s then f s else a) else a) (k + 1) i a = it (fun s a => if p s = true then (if a < f s then f s else a) else a) k (i + 1) (if p i = true then (if a < f i then f i else a) else a) := rfl
    rw [e]
    obtain ⟨h1, h2⟩ := ih (i + 1) (if p i = true then (if a < f i then f i else a) else a)
    generalize it (fun s a => if p s = true then (if a < f s then f s else a) else a) k (i + 1) (if p i = true then (if a < f i then f i else a) else a) = v at h1 h2 ⊢
    by_cases q : p i = true
    · rw [if_pos q] at h1
      have h4 : a ≤ v ∧ f i ≤ v := by
        split at h1 <;> omega
      refine ⟨h4.1, fun s g1 g2 g3 => ?_⟩
      by_cases q3 : s = i
      · rw [q3]; exact h4.2
      · exact h2 s (by omega) (by omega) g3
    · rw [if_neg q] at h1
      refine ⟨h1, fun s g1 g2 g3 => ?_⟩
      by_cases q3 : s = i
      · rw [q3] at g3; exact absurd g3 q
      · exact h2 s (by omega) (by omega) g3
/-- the first that .. -/
def sFi (p : Nat → Bool) : Nat → Nat → Nat
  | 0, _ => 0
  | k + 1, s => if p s = true then s else sFi p k (s + 1)
theorem sFi_ok : ∀ k s, (∃ j, s ≤ j ∧ j < s + k ∧ p j = true) → sFi p k s < s + k ∧ s ≤ sFi p k s ∧ p (sFi p k s) = true ∧ ∀ j, s ≤ j → j < sFi p k s → ¬ p j = true := by
  intro k
  induction k with
  | zero => intro s h; obtain ⟨j, h1, h2, _⟩ := h; omega
  | succ k ih =>
    intro s h
    unfold sFi
    by_cases q : p s = true
    · rw [if_pos q]
      exact ⟨by omega, Nat.le_refl _, q, fun j h1 h2 => by omega⟩
    · rw [if_neg q]
      obtain ⟨j, h1, h2, h3⟩ := h
      have hj : s + 1 ≤ j := by
        rcases Nat.lt_or_ge s j with g | g
        · exact g
        · have : j = s := by omega
          rw [this] at h3
          exact absurd h3 q
      obtain ⟨g1, g2, g3, g4⟩ := ih (s + 1) ⟨j, hj, by omega, h3⟩
      refine ⟨by omega, by omega, g3, fun j h1 h2 => ?_⟩
      by_cases q2 : j = s
      · rw [q2]; exact q
      · exact g4 j (by omega) h2
end MN
section FBC
variable {val val2 : List Nat → Nat}
theorem fbs_congr : ∀ (L : List (List Nat)) (acc : Option (Nat × List Nat)), (∀ l, l ∈ L → val l = val2 l) → fbs val L acc = fbs val2 L acc := by
  intro L
  induction L with
  | nil => intro acc _; rfl
  | cons x L ih =>
    intro acc h
    show fbs val L (fb1 val acc x) = fbs val2 L (fb1 val2 acc x)
    have e : fb1 val acc x = fb1 val2 acc x := by unfold fb1; rw [h x (List.mem_cons_self)]
    rw [e]
    exact ih _ (fun l hl => h l (List.mem_cons_of_mem _ hl))
theorem ctl_congr {G : Nat} : ∀ (L : List (List Nat)), (∀ l, l ∈ L → val l = val2 l) → ctl val G L = ctl val2 G L := by
  intro L
  induction L with
  | nil => intro _; rfl
  | cons x L ih =>
    intro h
    show (if val x ≤ G then 1 else 0) + ctl val G L = (if val2 x ≤ G then 1 else 0) + ctl val2 G L
    rw [h x (List.mem_cons_self), ih (fun l hl => h l (List.mem_cons_of_mem _ hl))]
end FBC
def nxg (g s : Nat) : Nat := g ||| 1 <<< s
def Ig (n m g : Nat) : Prop := g < 2 ^ n ∧ bc g + m = n
def s0L (t : Th) (X : Tx) (g : Nat) : Nat := sFi (fun s => decide (bt g s = 0) && decide (wg t X g s + vL t X (g ||| 1 <<< s) = vL t X g)) t.n 0
section VL
variable {d : Nat} {E : pEv} {r r' : Nat → Nat → Int32} {Q : Option Value → pH → Prop} {t : Th} {X : Tx}
theorem it_p {p : Nat → Bool} {q : Nat → Prop} [h : ∀ s, Decidable (q s)] (hp : ∀ s, (p s = true) = q s) {f : Nat → Nat → Nat} {k i a : Nat} : it (fun s a => if q s then f s a else a) k i a = it (fun s a => if p s = true then f s a else a) k i a := by
  congr 1
  funext s a
  have := hp s
  by_cases c : q s
  · rw [if_pos c, if_pos (this ▸ c)]
  · rw [if_neg c, if_neg (fun e => c (this ▸ e))]
theorem vlo_min {m g : Nat} : vlo t X (m + 1) g ≤ 9999 ∧ (∀ s, s < t.n → bt g s = 0 → vlo t X (m + 1) g ≤ wg t X g s + vlo t X m (g ||| 1 <<< s)) ∧ (vlo t X (m + 1) g = 9999 ∨ ∃ s, s < t.n ∧ bt g s = 0 ∧ vlo t X (m + 1) g = wg t X g s + vlo t X m (g ||| 1 <<< s)) := by
  have e : vlo t X (m + 1) g = it (fun s a => if decide (bt g s = 0) = true then (if wg t X g s + vlo t X m (g ||| 1 <<< s) < a then wg t X g s + vlo t X m (g ||| 1 <<< s) else a) else a) t.n 0 9999 := it_p (q := fun s => bt g s = 0) (f := fun s a => if wg t X g s + vlo t X m (g ||| 1 <<< s) < a then wg t X g s + vlo t X m (g ||| 1 <<< s) else a) (fun s => decide_eq_true_eq)
  rw [e]
  obtain ⟨h1, h2, h3⟩ := itmin (p := fun s => decide (bt g s = 0)) (f := fun s => wg t X g s + vlo t X m (g ||| 1 <<< s)) t.n 0 9999
  refine ⟨h1, fun s hs hb => h2 s (Nat.zero_le _) (by omega) (decide_eq_true hb), ?_⟩
  rcases h3 with h3 | ⟨s, g1, g2, g3, g4⟩
  · exact Or.inl h3
  · exact Or.inr ⟨s, by omega, of_decide_eq_true g3, g4⟩
theorem vhi_max {m g : Nat} {s : Nat} (hs : s < t.n) (hb : bt g s = 0) : wg t X g s + vhi t X m (g ||| 1 <<< s) ≤ vhi t X (m + 1) g := by
  have e : vhi t X (m + 1) g = it (fun s a => if decide (bt g s = 0) = true then (if a < wg t X g s + vhi t X m (g ||| 1 <<< s) then wg t X g s + vhi t X m (g ||| 1 <<< s) else a) else a) t.n 0 0 := it_p (q := fun s => bt g s = 0) (f := fun s a => if a < wg t X g s + vhi t X m (g ||| 1 <<< s) then wg t X g s + vhi t X m (g ||| 1 <<< s) else a) (fun s => decide_eq_true_eq)
  rw [e]
  exact (itmax (p := fun s => decide (bt g s = 0)) (f := fun s => wg t X g s + vhi t X m (g ||| 1 <<< s)) t.n 0 0).2 s (Nat.zero_le _) (by omega) (decide_eq_true hb)
theorem Ig_nx (ok : tOK t) {m g s : Nat} (h : Ig t.n (m + 1) g) (hs : s < t.n) (hb : bt g s = 0) : Ig t.n m (nxg g s) := by
  have hn := ok.n
  obtain ⟨b1, b2, b3⟩ := bcF t.n (by omega) g h.1 s hs hb
  exact ⟨b2, by unfold nxg; have := h.2; omega⟩
theorem vL_I {m g : Nat} (h : Ig t.n m g) : vL t X g = vlo t X m g ∧ vM t X g = vhi t X m g := by
  have e : t.n - bc g = m := by have := h.2; omega
  unfold vL vM
  rw [e]
  exact ⟨rfl, rfl⟩
theorem vlo_b (ok : tOK t) : ∀ m g, Ig t.n m g → vlo t X m g ≤ 113 * m := by
  intro m
  induction m with
  | zero => intro g _; exact Nat.zero_le _
  | succ m ih =>
    intro g h
    have hn := ok.n
    obtain ⟨s, hs, hb⟩ := bcE t.n (by omega) g h.1 (by have := h.2; omega)
    have h1 := (vlo_min (t := t) (X := X) (m := m) (g := g)).2.1 s hs hb
    have h2 := ih _ (Ig_nx ok h hs hb)
    have h3 := wg_le (X := X) (g := g) ok hs
    have h2 : vlo t X m (g ||| 1 <<< s) ≤ 113 * m := h2
    omega
theorem hL1 (ok : tOK t) : ∀ m g s, Ig t.n (m + 1) g → s < t.n → bt g s = 0 → vL t X g ≤ wg t X g s + vL t X (nxg g s) := by
  intro m g s h hs hb
  rw [(vL_I h).1, (vL_I (Ig_nx ok h hs hb)).1]
  exact (vlo_min (m := m)).2.1 s hs hb
theorem hL2 (ok : tOK t) : ∀ m g s, Ig t.n (m + 1) g → s < t.n → bt g s = 0 → wg t X g s + vM t X (nxg g s) ≤ vM t X g := by
  intro m g s h hs hb
  rw [(vL_I h).2, (vL_I (Ig_nx ok h hs hb)).2]
  exact vhi_max hs hb
theorem hLs (ok : tOK t) : ∀ m g, Ig t.n (m + 1) g → s0L t X g < t.n ∧ bt g (s0L t X g) = 0 ∧ wg t X g (s0L t X g) + vL t X (nxg g (s0L t X g)) = vL t X g ∧ ∀ s, s < s0L t X g → bt g s = 0 → wg t X g s + vL t X (nxg g s) ≠ vL t X g := by
  intro m g h
  have hn := ok.n
  have hb := vlo_b (X := X) ok _ _ h
  have hm : m + 1 ≤ 7 := by have := h.2; omega
  obtain ⟨h1, h2, h3⟩ := vlo_min (t := t) (X := X) (m := m) (g := g)
  obtain ⟨s, hs, hbt, he⟩ : ∃ s, s < t.n ∧ bt g s = 0 ∧ vlo t X (m + 1) g = wg t X g s + vlo t X m (g ||| 1 <<< s) := by
    rcases h3 with h3 | h3
    · omega
    · exact h3
  have hex : ∃ j, 0 ≤ j ∧ j < 0 + t.n ∧ (decide (bt g j = 0) && decide (wg t X g j + vL t X (g ||| 1 <<< j) = vL t X g)) = true := by
    refine ⟨s, Nat.zero_le _, by omega, ?_⟩
    rw [Bool.and_eq_true, decide_eq_true_eq, decide_eq_true_eq]
    refine ⟨hbt, ?_⟩
    rw [(vL_I h).1, he]
    congr 1
    exact (vL_I (Ig_nx ok h hs hbt)).1
  obtain ⟨g1, g2, g3, g4⟩ := sFi_ok (p := fun s => decide (bt g s = 0) && decide (wg t X g s + vL t X (g ||| 1 <<< s) = vL t X g)) t.n 0 hex
  rw [Bool.and_eq_true, decide_eq_true_eq, decide_eq_true_eq] at g3
  refine ⟨by show sFi _ _ _ < _; omega, g3.1, g3.2, fun s h5 h6 h7 => ?_⟩
  refine g4 s (Nat.zero_le _) h5 ?_
  rw [Bool.and_eq_true, decide_eq_true_eq, decide_eq_true_eq]
  exact ⟨h6, h7⟩
theorem hL0 : ∀ g, Ig t.n 0 g → vL t X g = 0 := fun g h => (vL_I h).1
theorem hM0 : ∀ g, Ig t.n 0 g → vM t X g = 0 := fun g h => (vL_I h).2
theorem Ig0 (ok : tOK t) : Ig t.n t.n 0 := ⟨Nat.two_pow_pos _, by show bc 0 + t.n = t.n; rw [show bc 0 = 0 from by decide]; omega⟩
theorem gs_tot {l : List Nat} (hl : l.length = t.n) : gs t X (gl l) = tot nxg (wg t X) l 0 := by
  have key : ∀ (l2 : List Nat) i a g, (∀ k, k < l2.length → gl l (i + k) = gl l2 k) → (it (fun k a => gs1 t X (gl l k) a) l2.length i (a, g)).1 = a + tot nxg (wg t X) l2 g := by
    intro l2
    induction l2 with
    | nil => intro i a g _; rfl
    | cons x l2 ih =>
      intro i a g h
      have h0 : gl l i = x := h 0 (by simp)
      show (it (fun k a => gs1 t X (gl l k) a) l2.length (i + 1) (gs1 t X (gl l i) (a, g))).1 = a + (wg t X g x + tot nxg (wg t X) l2 (nxg g x))
      rw [h0]
      have := ih (i + 1) (a + wg t X g x) (nxg g x) (fun k hk => by
        have := h (k + 1) (by simp; omega)
        rw [show i + 1 + k = i + (k + 1) by omega, this]
        rfl)
      rw [← Nat.add_assoc]
      exact this
  have := key l 0 0 0 (fun k _ => by rw [Nat.zero_add])
  rw [hl] at this
  unfold gs
  rw [this, Nat.zero_add]
theorem gs_pm {l : List Nat} (h : l ∈ pmA t.n t.n 0) : gs t X (gl l) = tot nxg (wg t X) l 0 := gs_tot (pm_mem _ _ _ h).1
/-- what the model finds -/
theorem least_main (ok : tOK t) : fbs (fun l => gs t X (gl l)) (pmA t.n t.n 0) none = some (vL t X 0, grd nxg (s0L t X) t.n 0) := by
  rw [fbs_congr (val2 := fun l => tot nxg (wg t X) l 0) _ _ (fun l hl => gs_pm hl)]
  exact opt_main (mk := fun g => g) (nx := nxg) (w := wg t X) (V := vL t X) (s0 := s0L t X) (I := Ig t.n) (fun _ _ => rfl) (fun m a s => Ig_nx ok) hL0 (hL1 ok) (hLs ok) t.n 0 (Ig0 ok)
theorem gs_b (ok : tOK t) {l : List Nat} (h : l ∈ pmA t.n t.n 0) : gs t X (gl l) < 10000 := by
  rw [gs_pm h]
  have := (opt_bd (mk := fun g => g) (nx := nxg) (w := wg t X) (V := vL t X) (Mx := vM t X) (I := Ig t.n) (fun _ _ => rfl) (fun m a s => Ig_nx ok) hL0 (hL1 ok) (hL2 ok) t.n 0 (Ig0 ok) l h).2
  have h2 := vM_le (X := X) ok 0
  show tot nxg (wg t X) l 0 < 10000
  omega
def cUL (t : Th) (X : Tx) : Nat → Nat → Nat → Nat := cU t.n (fun g => g) nxg (wg t X) (vL t X) (vM t X) wy
theorem len_I (ok : tOK t) : ∀ m g, Ig t.n m g → (pmA t.n m g).length = wy m := by
  intro m g h
  have := len_ok t.n (by have := ok.n; omega) g h.1
  rw [show t.n - bc g = m by have := h.2; omega] at this
  exact this
theorem count_main (ok : tOK t) {G : Nat} : ctl (fun l => gs t X (gl l)) G (pmA t.n t.n 0) = if vM t X 0 ≤ G then wy t.n else cUL t X t.n 0 G := by
  rw [ctl_congr (val2 := fun l => tot nxg (wg t X) l 0) _ (fun l hl => gs_pm hl)]
  have bd := opt_bd (mk := fun g => g) (nx := nxg) (w := wg t X) (V := vL t X) (Mx := vM t X) (I := Ig t.n) (fun _ _ => rfl) (fun m a s => Ig_nx ok) hL0 (hL1 ok) (hL2 ok) t.n 0 (Ig0 ok)
  by_cases h : vM t X 0 ≤ G
  · rw [if_pos h, ctl_all _ (fun l hl => Nat.le_trans (bd l hl).2 h)]
    exact len_I ok t.n 0 (Ig0 ok)
  · rw [if_neg h]
    cases hn : t.n with
    | zero =>
      have h0 : vM t X 0 = 0 := hM0 0 (by have := Ig0 ok; rw [hn] at this ⊢; exact this)
      omega
    | succ m =>
      have := opt_ct (n := t.n) (mk := fun g => g) (nx := nxg) (w := wg t X) (V := vL t X) (Mx := vM t X) (I := Ig t.n) (wys := wy) (fun _ _ => rfl) (fun m a s => Ig_nx ok) hL0 hM0 (hL1 ok) (hL2 ok) (len_I ok) m 0 G (by have := Ig0 ok; rw [hn] at this ⊢; exact this)
      rw [hn] at this
      unfold cUL
      rw [hn]
      exact this
end VL
