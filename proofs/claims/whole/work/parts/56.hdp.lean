/-! THE FEWEST HANDS, purely: props don't hang on one another -/
def mv (t : Th) (l s : Nat) : Nat := if l = 9 then 0 else if en t l = bg t s then 0 else 1
def hh (t : Th) : Nat → Nat → Nat → Nat → Nat
  | 0, _, _, _ => 0
  | k + 1, p, g, l =>
    if it (fun s a => if (decide (bt g s = 0) && decide (t.P s = p)) = true then (if mv t l s + hh t k p (g ||| 1 <<< s) s < a then mv t l s + hh t k p (g ||| 1 <<< s) s else a) else a) t.n 0 99 = 99 then 0
    else it (fun s a => if (decide (bt g s = 0) && decide (t.P s = p)) = true then (if mv t l s + hh t k p (g ||| 1 <<< s) s < a then mv t l s + hh t k p (g ||| 1 <<< s) s else a) else a) t.n 0 99
def sh4 (f : Nat → Nat) : Nat := f 0 + f 1 + f 2 + f 3
abbrev Sh : Type := Nat × (Nat → Nat)
def nxh (t : Th) (a : Sh) (s : Nat) : Sh := (a.1 ||| 1 <<< s, fun p => if p = t.P s then s else a.2 p)
def whh (t : Th) (a : Sh) (s : Nat) : Nat := if t.P s = 4 then 0 else mv t (a.2 (t.P s)) s
def vH (t : Th) (a : Sh) : Nat := sh4 (fun p => hh t 8 p a.1 (a.2 p))
def lok (t : Th) (a : Nat → Nat) : Prop := ∀ p, p < 4 → a p = 9 ∨ (a p < t.n ∧ t.P (a p) = p)
def Ih (t : Th) (m : Nat) (a : Sh) : Prop := Ig t.n m a.1 ∧ lok t a.2
def s0H (t : Th) (a : Sh) : Nat := sFi (fun s => decide (bt a.1 s = 0) && (decide (t.P s = 4) || decide (mv t (a.2 (t.P s)) s + hh t 8 (t.P s) (a.1 ||| 1 <<< s) s = hh t 8 (t.P s) a.1 (a.2 (t.P s))))) t.n 0
section PH
variable {t : Th}
theorem bt_or0 : ∀ g, g < 128 → ∀ s, s < 7 → ∀ j, j < 7 → bt (g ||| 1 <<< s) j = if j = s then 1 else bt g j := by decide +kernel
theorem mv_le {l s : Nat} : mv t l s ≤ 1 := by
  unfold mv
  (repeat' split) <;> omega
theorem hh_min {k p g l : Nat} (hb : ∀ s, hh t k p (g ||| 1 <<< s) s ≤ k) (hk : k < 90) :
    (∀ s, s < t.n → bt g s = 0 → t.P s = p → hh t (k + 1) p g l ≤ mv t l s + hh t k p (g ||| 1 <<< s) s) ∧
    (((∀ s, s < t.n → bt g s = 0 → t.P s ≠ p) ∧ hh t (k + 1) p g l = 0) ∨ ∃ s, s < t.n ∧ bt g s = 0 ∧ t.P s = p ∧ hh t (k + 1) p g l = mv t l s + hh t k p (g ||| 1 <<< s) s) := by
  obtain ⟨h1, h2, h3⟩ := itmin (p := fun s => decide (bt g s = 0) && decide (t.P s = p)) (f := fun s => mv t l s + hh t k p (g ||| 1 <<< s) s) t.n 0 99
  have e : hh t (k + 1) p g l = if it (fun s a => if (decide (bt g s = 0) && decide (t.P s = p)) = true then (if mv t l s + hh t k p (g ||| 1 <<< s) s < a then mv t l s + hh t k p (g ||| 1 <<< s) s else a) else a) t.n 0 99 = 99 then 0 else it (fun s a => if (decide (bt g s = 0) && decide (t.P s = p)) = true then (if mv t l s + hh t k p (g ||| 1 <<< s) s < a then mv t l s + hh t k p (g ||| 1 <<< s) s else a) else a) t.n 0 99 := rfl
  rw [e]
  generalize it (fun s a => if (decide (bt g s = 0) && decide (t.P s = p)) = true then (if mv t l s + hh t k p (g ||| 1 <<< s) s < a then mv t l s + hh t k p (g ||| 1 <<< s) s else a) else a) t.n 0 99 = v at h1 h2 h3 ⊢
  have h2' : ∀ s, s < t.n → bt g s = 0 → t.P s = p → v ≤ mv t l s + hh t k p (g ||| 1 <<< s) s := fun s g1 g2 g3 => h2 s (Nat.zero_le _) (by omega) (by rw [Bool.and_eq_true, decide_eq_true_eq, decide_eq_true_eq]; exact ⟨g2, g3⟩)
  refine ⟨fun s g1 g2 g3 => ?_, ?_⟩
  · have := h2' s g1 g2 g3
    split <;> omega
  · by_cases q : v = 99
    · rw [if_pos q]
      refine Or.inl ⟨fun s g1 g2 g3 => ?_, rfl⟩
      have a1 := h2' s g1 g2 g3
      have a2 := hb s
      have a3 := @mv_le t l s
      omega
    · rw [if_neg q]
      rcases h3 with h3 | ⟨s, g1, g2, g3, g4⟩
      · exact absurd h3 q
      · rw [Bool.and_eq_true, decide_eq_true_eq, decide_eq_true_eq] at g3
        exact Or.inr ⟨s, by omega, g3.1, g3.2, g4⟩
theorem hh_le : ∀ k, k < 90 → ∀ p g l, hh t k p g l ≤ k := by
  intro k
  induction k with
  | zero => intro _ p g l; exact Nat.le_refl _
  | succ k ih =>
    intro hk p g l
    rcases (hh_min (t := t) (k := k) (p := p) (g := g) (l := l) (fun s => ih (by omega) _ _ _) (by omega)).2 with ⟨_, h⟩ | ⟨s, _, _, _, h⟩
    · rw [h]; exact Nat.zero_le _
    · rw [h]
      have := ih (by omega) p (g ||| 1 <<< s) s
      have := @mv_le t l s
      omega
theorem hh_fold {k k' p g g' l : Nat} (h : ∀ s, s < t.n → ((decide (bt g s = 0) && decide (t.P s = p)) = (decide (bt g' s = 0) && decide (t.P s = p))) ∧ (bt g s = 0 → t.P s = p → hh t k p (g ||| 1 <<< s) s = hh t k' p (g' ||| 1 <<< s) s)) : hh t (k + 1) p g l = hh t (k' + 1) p g' l := by
  have e : it (fun s a => if (decide (bt g s = 0) && decide (t.P s = p)) = true then (if mv t l s + hh t k p (g ||| 1 <<< s) s < a then mv t l s + hh t k p (g ||| 1 <<< s) s else a) else a) t.n 0 99 = it (fun s a => if (decide (bt g' s = 0) && decide (t.P s = p)) = true then (if mv t l s + hh t k' p (g' ||| 1 <<< s) s < a then mv t l s + hh t k' p (g' ||| 1 <<< s) s else a) else a) t.n 0 99 := by
    refine it_congr (n := t.n) (fun s a hs => ?_) t.n 0 99 (by omega)
    obtain ⟨h1, h2⟩ := h s hs
    rw [← h1]
    by_cases q : (decide (bt g s = 0) && decide (t.P s = p)) = true
    · rw [if_pos q, if_pos q]
      rw [Bool.and_eq_true, decide_eq_true_eq, decide_eq_true_eq] at q
      rw [h2 q.1 q.2]
    · rw [if_neg q, if_neg q]
  show (if _ = 99 then 0 else _) = (if _ = 99 then 0 else _)
  rw [e]
theorem hh_fuel (ok : tOK t) : ∀ m g, Ig t.n m g → ∀ j p l, hh t m p g l = hh t (m + 1 + j) p g l := by
  have hn := ok.n
  intro m
  induction m with
  | zero =>
    intro g hg j p l
    have hfull : ∀ s, s < t.n → bt g s ≠ 0 := by
      have hb : ∀ n, n < 8 → ∀ g, g < 2 ^ n → bc g = n → ∀ s, s < n → bt g s ≠ 0 := by
        have : ∀ n, n < 8 → ∀ g, g < 2 ^ n → ∀ s, s < n → (!(Nat.beq (bc g) n) || !(Nat.beq (bt g s) 0)) = true := by decide +kernel
        intro n hn g hg hb s hs h0
        have := this n hn g hg s hs
        rw [hb, h0] at this
        simp at this
      exact hb t.n (by omega) g hg.1 (by have := hg.2; omega)
    show 0 = hh t (0 + 1 + j) p g l
    rw [show 0 + 1 + j = j + 1 by omega]
    by_cases hj : j < 90
    · rcases (hh_min (t := t) (k := j) (p := p) (g := g) (l := l) (fun s => hh_le j hj _ _ _) hj).2 with ⟨_, h⟩ | ⟨s, h1, h2, _⟩
      · exact h.symm
      · exact absurd h2 (hfull s h1)
    · have e : it (fun s a => if (decide (bt g s = 0) && decide (t.P s = p)) = true then (if mv t l s + hh t j p (g ||| 1 <<< s) s < a then mv t l s + hh t j p (g ||| 1 <<< s) s else a) else a) t.n 0 99 = 99 := by
        refine it_inv (n := t.n) (J := fun _ b => b = 99) (fun s a hs ha => ?_) rfl t.n (Nat.le_refl _)
        rw [if_neg]
        · exact ha
        · rw [Bool.and_eq_true, decide_eq_true_eq]
          exact fun q => hfull s hs q.1
      show 0 = if _ = 99 then 0 else _
      rw [if_pos e]
  | succ m ih =>
    intro g hg j p l
    rw [show m + 1 + 1 + j = (m + 1 + j) + 1 by omega]
    refine hh_fold (fun s hs => ⟨rfl, fun hb _ => ?_⟩)
    exact ih _ (Ig_nx ok hg hs hb) j p s
theorem hh_fix (ok : tOK t) {m g p l : Nat} (hg : Ig t.n m g) : hh t 8 p g l = hh t 9 p g l := by
  have hm : m ≤ 7 := by have := hg.2; have := ok.n; omega
  have h1 := hh_fuel ok m g hg (7 - m) p l
  have h2 := hh_fuel ok m g hg (8 - m) p l
  rw [show m + 1 + (7 - m) = 8 by omega] at h1
  rw [show m + 1 + (8 - m) = 9 by omega] at h2
  rw [← h1, h2]
theorem hh_irr (hn : t.n ≤ 7) : ∀ k p g g' l, g < 128 → g' < 128 → (∀ s, s < t.n → t.P s = p → bt g s = bt g' s) → hh t k p g l = hh t k p g' l := by
  intro k
  induction k with
  | zero => intro p g g' l _ _ _; rfl
  | succ k ih =>
    intro p g g' l hg hg' h
    refine hh_fold (fun s hs => ⟨?_, fun hb hp => ?_⟩)
    · by_cases q : t.P s = p
      · rw [h s hs q]
      · rw [decide_eq_false q, Bool.and_false, Bool.and_false]
    · refine ih p _ _ s (or7 hg (sl_lt (by omega))) (or7 hg' (sl_lt (by omega))) (fun j hj hpj => ?_)
      rw [bt_or0 g hg s (by omega) j (by omega), bt_or0 g' hg' s (by omega) j (by omega), h j hj hpj]
theorem hh_a (ok : tOK t) {m g p l s : Nat} (hg : Ig t.n m g) (hs : s < t.n) (hb : bt g s = 0) (hp : t.P s = p) : hh t 8 p g l ≤ mv t l s + hh t 8 p (g ||| 1 <<< s) s := by
  rw [hh_fix ok hg]
  exact (hh_min (t := t) (k := 8) (p := p) (g := g) (l := l) (fun s => hh_le 8 (by decide) _ _ _) (by decide)).1 s hs hb hp
theorem hh_b (ok : tOK t) {m g p l : Nat} (hg : Ig t.n m g) : ((∀ s, s < t.n → bt g s = 0 → t.P s ≠ p) ∧ hh t 8 p g l = 0) ∨ ∃ s, s < t.n ∧ bt g s = 0 ∧ t.P s = p ∧ hh t 8 p g l = mv t l s + hh t 8 p (g ||| 1 <<< s) s := by
  rw [hh_fix ok hg]
  exact (hh_min (t := t) (k := 8) (p := p) (g := g) (l := l) (fun s => hh_le 8 (by decide) _ _ _) (by decide)).2
theorem sh4_up {f f' : Nat → Nat} {q : Nat} (hq : q < 4) (h : ∀ p, p < 4 → p ≠ q → f p = f' p) : sh4 f + f' q = sh4 f' + f q := by
  unfold sh4
  match q, hq with
  | 0, _ => rw [h 1 (by decide) (by decide), h 2 (by decide) (by decide), h 3 (by decide) (by decide)]; omega
  | 1, _ => rw [h 0 (by decide) (by decide), h 2 (by decide) (by decide), h 3 (by decide) (by decide)]; omega
  | 2, _ => rw [h 0 (by decide) (by decide), h 1 (by decide) (by decide), h 3 (by decide) (by decide)]; omega
  | 3, _ => rw [h 0 (by decide) (by decide), h 1 (by decide) (by decide), h 2 (by decide) (by decide)]; omega
  | q + 4, hq => exact absurd hq (by omega)
theorem sh4_eq {f f' : Nat → Nat} (h : ∀ p, p < 4 → f p = f' p) : sh4 f = sh4 f' := by
  unfold sh4
  rw [h 0 (by decide), h 1 (by decide), h 2 (by decide), h 3 (by decide)]
/-- one scene more: what of the other props -/
theorem vH_nx (ok : tOK t) {m : Nat} {a : Sh} (ha : Ih t (m + 1) a) {s : Nat} (hs : s < t.n) (hb : bt a.1 s = 0) :
    (t.P s = 4 → whh t a s + vH t (nxh t a s) = vH t a) ∧
    (t.P s < 4 → whh t a s + vH t (nxh t a s) + hh t 8 (t.P s) a.1 (a.2 (t.P s)) = vH t a + (mv t (a.2 (t.P s)) s + hh t 8 (t.P s) (a.1 ||| 1 <<< s) s)) := by
  have hn := ok.n
  have h2n := p128 ok
  have hI := Ig_nx ok ha.1 hs hb
  have hg : a.1 < 128 := by have := ha.1.1; omega
  have hg' : a.1 ||| 1 <<< s < 128 := or7 hg (sl_lt (by omega))
  have irr : ∀ p, p ≠ t.P s → hh t 8 p (a.1 ||| 1 <<< s) (a.2 p) = hh t 8 p a.1 (a.2 p) := by
    intro p hp
    refine hh_irr hn 8 p _ _ _ hg' hg (fun j hj hpj => ?_)
    rw [bt_or0 a.1 hg s (by omega) j (by omega), if_neg]
    rintro rfl
    exact hp hpj.symm
  refine ⟨fun h4 => ?_, fun h4 => ?_⟩
  · unfold whh vH
    rw [if_pos h4, Nat.zero_add]
    refine sh4_eq (fun p hp => ?_)
    show hh t 8 p (a.1 ||| 1 <<< s) (if p = t.P s then s else a.2 p) = _
    rw [if_neg (by omega)]
    exact irr p (by omega)
  · have e := sh4_up (f := fun p => hh t 8 p (a.1 ||| 1 <<< s) (if p = t.P s then s else a.2 p)) (f' := fun p => hh t 8 p a.1 (a.2 p)) h4 (fun p hp hq => by
      show hh t 8 p (a.1 ||| 1 <<< s) (if p = t.P s then s else a.2 p) = _
      rw [if_neg hq]
      exact irr p hq)
    have e : vH t (nxh t a s) + hh t 8 (t.P s) a.1 (a.2 (t.P s)) = vH t a + hh t 8 (t.P s) (a.1 ||| 1 <<< s) (if t.P s = t.P s then s else a.2 (t.P s)) := e
    rw [if_pos rfl] at e
    unfold whh
    rw [if_neg (by omega)]
    omega
theorem lok_nx {a : Nat → Nat} (h : lok t a) {s : Nat} (hs : s < t.n) : lok t (fun p => if p = t.P s then s else a p) := by
  intro p hp
  by_cases q : p = t.P s
  · right
    show (if p = t.P s then s else a p) < t.n ∧ t.P (if p = t.P s then s else a p) = p
    rw [if_pos q]
    exact ⟨hs, q.symm⟩
  · show (if p = t.P s then s else a p) = 9 ∨ ((if p = t.P s then s else a p) < t.n ∧ t.P (if p = t.P s then s else a p) = p)
    rw [if_neg q]
    exact h p hp
theorem Ih_nx (ok : tOK t) : ∀ m (a : Sh) s, Ih t (m + 1) a → s < t.n → bt a.1 s = 0 → Ih t m (nxh t a s) := fun m a s h hs hb => ⟨Ig_nx ok h.1 hs hb, lok_nx h.2 hs⟩
theorem hH0 (ok : tOK t) : ∀ a : Sh, Ih t 0 a → vH t a = 0 := by
  intro a h
  have e : ∀ p l, hh t 8 p a.1 l = 0 := fun p l => (hh_fuel ok 0 a.1 h.1 7 p l).symm
  unfold vH sh4
  simp only [e]
theorem hH1 (ok : tOK t) : ∀ m (a : Sh) s, Ih t (m + 1) a → s < t.n → bt a.1 s = 0 → vH t a ≤ whh t a s + vH t (nxh t a s) := by
  intro m a s ha hs hb
  have hP := ok.P s hs
  obtain ⟨h1, h2⟩ := vH_nx ok ha hs hb
  by_cases q : t.P s = 4
  · rw [h1 q]; exact Nat.le_refl _
  · have h3 := h2 (by omega)
    have h4 := hh_a (l := a.2 (t.P s)) ok ha.1 hs hb rfl
    omega
theorem hHs (ok : tOK t) : ∀ m (a : Sh), Ih t (m + 1) a → s0H t a < t.n ∧ bt a.1 (s0H t a) = 0 ∧ whh t a (s0H t a) + vH t (nxh t a (s0H t a)) = vH t a ∧ ∀ s, s < s0H t a → bt a.1 s = 0 → whh t a s + vH t (nxh t a s) ≠ vH t a := by
  intro m a ha
  have hn := ok.n
  obtain ⟨s, hs, hb⟩ := bcE t.n (by omega) a.1 ha.1.1 (by have := ha.1.2; omega)
  have hex : ∃ j, 0 ≤ j ∧ j < 0 + t.n ∧ (decide (bt a.1 j = 0) && (decide (t.P j = 4) || decide (mv t (a.2 (t.P j)) j + hh t 8 (t.P j) (a.1 ||| 1 <<< j) j = hh t 8 (t.P j) a.1 (a.2 (t.P j))))) = true := by
    by_cases q : t.P s = 4
    · exact ⟨s, Nat.zero_le _, by omega, by simp [hb, q]⟩
    · rcases hh_b (p := t.P s) (l := a.2 (t.P s)) ok ha.1 with ⟨h, _⟩ | ⟨s2, h1, h2, h3, h4⟩
      · exact absurd rfl (h s hs hb)
      · refine ⟨s2, Nat.zero_le _, by omega, ?_⟩
        rw [h3, h4]
        simp [h2]
  obtain ⟨g1, g2, g3, g4⟩ := sFi_ok (p := fun s => decide (bt a.1 s = 0) && (decide (t.P s = 4) || decide (mv t (a.2 (t.P s)) s + hh t 8 (t.P s) (a.1 ||| 1 <<< s) s = hh t 8 (t.P s) a.1 (a.2 (t.P s))))) t.n 0 hex
  have g1 : s0H t a < t.n := by
    have : s0H t a < 0 + t.n := g1
    omega
  have iff : ∀ s, s < t.n → bt a.1 s = 0 → (whh t a s + vH t (nxh t a s) = vH t a ↔ (t.P s = 4 ∨ mv t (a.2 (t.P s)) s + hh t 8 (t.P s) (a.1 ||| 1 <<< s) s = hh t 8 (t.P s) a.1 (a.2 (t.P s)))) := by
    intro s hs hb
    have hP := ok.P s hs
    obtain ⟨h1, h2⟩ := vH_nx ok ha hs hb
    by_cases q : t.P s = 4
    · exact ⟨fun _ => Or.inl q, fun _ => h1 q⟩
    · have h3 := h2 (by omega)
      refine ⟨fun h => Or.inr (by omega), fun h => ?_⟩
      rcases h with h | h
      · exact absurd h q
      · omega
  rw [Bool.and_eq_true, Bool.or_eq_true, decide_eq_true_eq, decide_eq_true_eq, decide_eq_true_eq] at g3
  have g3 : bt a.1 (s0H t a) = 0 ∧ (t.P (s0H t a) = 4 ∨ mv t (a.2 (t.P (s0H t a))) (s0H t a) + hh t 8 (t.P (s0H t a)) (a.1 ||| 1 <<< (s0H t a)) (s0H t a) = hh t 8 (t.P (s0H t a)) a.1 (a.2 (t.P (s0H t a)))) := g3
  refine ⟨g1, g3.1, (iff _ g1 g3.1).mpr g3.2, fun s h5 h6 h7 => ?_⟩
  have h8 := (iff s (by omega) h6).mp h7
  refine g4 s (Nat.zero_le _) h5 ?_
  rw [Bool.and_eq_true, Bool.or_eq_true, decide_eq_true_eq, decide_eq_true_eq, decide_eq_true_eq]
  exact ⟨h6, h8⟩
theorem en_le (ok : tOK t) {s : Nat} (hs : s < t.n) (hp : t.P s < 4) : en t s ≤ 5 ∧ bg t s ≤ 5 := by
  have h1 := ok.F s hs hp
  have h2 := ok.G s hs hp
  unfold en bg
  constructor
  · split <;> omega
  · split <;> omega
theorem hs_tot (ok : tOK t) {l : List Nat} (hl : l.length = t.n) (hlt : ∀ k, k < t.n → gl l k < t.n) : (hsR t (gl l)).1 = tot (nxh t) (whh t) l (0, fun _ => 9) := by
  have key : ∀ (l2 : List Nat) i c sp (a : Sh), (∀ k, k < l2.length → gl l (i + k) = gl l2 k) → i + l2.length = t.n → lok t a.2 → (∀ p, p < 4 → sp p = if a.2 p = 9 then (-1 : Int32) else nI (en t (a.2 p))) → (it (fun k a => hs1 t (gl l k) a) l2.length i (c, sp)).1 = c + tot (nxh t) (whh t) l2 a := by
    intro l2
    induction l2 with
    | nil => intro i c sp a _ _ _ _; rfl
    | cons x l2 ih =>
      intro i c sp a h hi ha hsp
      have h0 : gl l i = x := h 0 (by simp)
      have hi : i + (l2.length + 1) = t.n := hi
      have hx : x < t.n := by rw [← h0]; exact hlt i (by omega)
      show (it (fun k a => hs1 t (gl l k) a) l2.length (i + 1) (hs1 t (gl l i) (c, sp))).1 = c + (whh t a x + tot (nxh t) (whh t) l2 (nxh t a x))
      rw [h0]
      have hP := ok.P x hx
      have h' : ∀ k, k < l2.length → gl l (i + 1 + k) = gl l2 k := fun k hk => by
        have := h (k + 1) (by simp; omega)
        rw [show i + 1 + k = i + (k + 1) by omega, this]
        rfl
      by_cases q : t.P x = 4
      · have e1 : hs1 t x (c, sp) = (c, sp) := by unfold hs1; rw [if_pos q]
        rw [e1]
        have := ih (i + 1) c sp (nxh t a x) h' (by omega) (lok_nx ha hx) (fun p hp => by
          show sp p = if (if p = t.P x then x else a.2 p) = 9 then _ else nI (en t (if p = t.P x then x else a.2 p))
          rw [if_neg (show ¬ p = t.P x by omega)]
          exact hsp p hp)
        rw [this]
        unfold whh
        rw [if_pos q, Nat.zero_add]
      · have hP4 : t.P x < 4 := by omega
        have e1 : hs1 t x (c, sp) = (c + (if sp (t.P x) < 0 then 0 else if sp (t.P x) = nI (bg t x) then 0 else 1), fun j => if j = t.P x then nI (en t x) else sp j) := by unfold hs1; rw [if_neg q]
        rw [e1]
        have hb := en_le ok hx hP4
        have cost : (if sp (t.P x) < 0 then 0 else if sp (t.P x) = nI (bg t x) then 0 else 1) = whh t a x := by
          unfold whh mv
          rw [if_neg q, hsp _ hP4]
          by_cases q9 : a.2 (t.P x) = 9
          · rw [if_pos q9, if_pos q9, if_pos (by decide)]
          · rw [if_neg q9, if_neg q9]
            have h3 := (ha _ hP4).resolve_left q9
            have h4 := en_le ok h3.1 (by rw [h3.2]; exact hP4)
            have e : (nI (en t (a.2 (t.P x))) = nI (bg t x)) = (en t (a.2 (t.P x)) = bg t x) := propext (nI_eq (by omega) (by omega))
            rw [if_neg (nI_pos (by omega))]
            simp only [e]
        have := ih (i + 1) (c + (if sp (t.P x) < 0 then 0 else if sp (t.P x) = nI (bg t x) then 0 else 1)) (fun j => if j = t.P x then nI (en t x) else sp j) (nxh t a x) h' (by omega) (lok_nx ha hx) (fun p hp => by
          show (if p = t.P x then nI (en t x) else sp p) = if (if p = t.P x then x else a.2 p) = 9 then _ else nI (en t (if p = t.P x then x else a.2 p))
          by_cases qp : p = t.P x
          · simp only [if_pos qp]
            rw [if_neg (by have := ok.n; omega)]
          · simp only [if_neg qp]
            exact hsp p hp)
        refine this.trans ?_
        rw [cost, Nat.add_assoc]
  have := key l 0 0 (fun _ => -1) (0, fun _ => 9) (fun k _ => by rw [Nat.zero_add]) (by omega) (fun p hp => Or.inl rfl) (fun p hp => rfl)
  rw [hl, Nat.zero_add] at this
  exact this
theorem hs_pm (ok : tOK t) {l : List Nat} (h : l ∈ pmA t.n t.n 0) : (hsR t (gl l)).1 = tot (nxh t) (whh t) l (0, fun _ => 9) := by
  obtain ⟨h1, h2⟩ := pm_mem _ _ _ h
  exact hs_tot ok h1 h2
theorem Ih0 (ok : tOK t) : Ih t t.n (0, fun _ => 9) := ⟨Ig0 ok, fun p hp => Or.inl rfl⟩
theorem fewest_main (ok : tOK t) : fbs (fun l => (hsR t (gl l)).1) (pmA t.n t.n 0) none = some (vH t (0, fun _ => 9), grd (nxh t) (s0H t) t.n (0, fun _ => 9)) := by
  rw [fbs_congr (val2 := fun l => tot (nxh t) (whh t) l (0, fun _ => 9)) _ _ (fun l hl => hs_pm ok hl)]
  exact opt_main (mk := fun a : Sh => a.1) (nx := nxh t) (w := whh t) (V := vH t) (s0 := s0H t) (I := Ih t) (fun _ _ => rfl) (Ih_nx ok) (hH0 ok) (hH1 ok) (hHs ok) t.n (0, fun _ => 9) (Ih0 ok)
theorem tot_le : ∀ (l : List Nat) (a : Sh), tot (nxh t) (whh t) l a ≤ l.length := by
  intro l
  induction l with
  | nil => intro a; exact Nat.le_refl _
  | cons x l ih =>
    intro a
    have h1 := ih (nxh t a x)
    have h2 : whh t a x ≤ 1 := by
      unfold whh
      split
      · omega
      · exact mv_le
    show whh t a x + tot (nxh t) (whh t) l (nxh t a x) ≤ l.length + 1
    omega
theorem hs_b (ok : tOK t) {l : List Nat} (h : l ∈ pmA t.n t.n 0) : (hsR t (gl l)).1 < 10000 := by
  rw [hs_pm ok h]
  have h1 := tot_le (t := t) l (0, fun _ => 9)
  have h2 := (pm_mem _ _ _ h).1
  have h3 := ok.n
  omega
end PH
