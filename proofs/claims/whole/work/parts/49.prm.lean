/-! ALL ORDERS, purely: in the order of rows; the first of the least; how many are up to a bound -/
def pmB (f : Nat → List (List Nat)) (g : Nat) : Nat → Nat → List (List Nat)
  | 0, _ => []
  | k + 1, s => (if bt g s = 0 then (f s).map (fun l => s :: l) else []) ++ pmB f g k (s + 1)
def pmA (n : Nat) : Nat → Nat → List (List Nat)
  | 0, _ => [[]]
  | m + 1, g => pmB (fun s => pmA n m (g ||| 1 <<< s)) g n 0
def fb1 (val : List Nat → Nat) (acc : Option (Nat × List Nat)) (l : List Nat) : Option (Nat × List Nat) := match acc with
  | none => some (val l, l)
  | some y => if val l < y.1 then some (val l, l) else some y
def fbs (val : List Nat → Nat) (L : List (List Nat)) (acc : Option (Nat × List Nat)) : Option (Nat × List Nat) := L.foldl (fb1 val) acc
def ltp (acc : Option (Nat × List Nat)) (y : Nat × List Nat) : Option (Nat × List Nat) := match acc with
  | none => some y
  | some x => if y.1 < x.1 then some y else some x
section FB
variable {val val2 : List Nat → Nat}
theorem fbs_some : ∀ (L : List (List Nat)) (y : Nat × List Nat), ∃ z, fbs val L (some y) = some z := by
  intro L
  induction L with
  | nil => intro y; exact ⟨y, rfl⟩
  | cons x L ih =>
    intro y
    show ∃ z, fbs val L (fb1 val (some y) x) = some z
    unfold fb1
    by_cases h : val x < y.1
    · simp only [if_pos h]; exact ih _
    · simp only [if_neg h]; exact ih _
theorem ltp_ltp {acc : Option (Nat × List Nat)} {x z y : Nat × List Nat} (h : ltp (some x) z = some y) : ltp (ltp acc x) z = ltp acc y := by
  unfold ltp at h
  by_cases h1 : z.1 < x.1
  · simp only [if_pos h1] at h
    cases h
    cases acc with
    | none => show (if z.1 < x.1 then some z else some x) = some z; rw [if_pos h1]
    | some a =>
      show ltp (if x.1 < a.1 then some x else some a) z = if z.1 < a.1 then some z else some a
      by_cases h2 : x.1 < a.1
      · rw [if_pos h2, if_pos (by omega)]
        show (if z.1 < x.1 then some z else some x) = some z
        rw [if_pos h1]
      · rw [if_neg h2]
        rfl
  · simp only [if_neg h1] at h
    cases h
    cases acc with
    | none => show (if z.1 < x.1 then some z else some x) = some x; rw [if_neg h1]
    | some a =>
      show ltp (if x.1 < a.1 then some x else some a) z = if x.1 < a.1 then some x else some a
      by_cases h2 : x.1 < a.1
      · rw [if_pos h2]
        show (if z.1 < x.1 then some z else some x) = some x
        rw [if_neg h1]
      · rw [if_neg h2]
        show (if z.1 < a.1 then some z else some a) = some a
        rw [if_neg (by omega)]
theorem fb1_ltp {acc : Option (Nat × List Nat)} {x : List Nat} : fb1 val acc x = ltp acc (val x, x) := by cases acc <;> rfl
theorem fbs_acc : ∀ (L : List (List Nat)) (acc : Option (Nat × List Nat)) (y : Nat × List Nat), fbs val L none = some y → fbs val L acc = ltp acc y := by
  intro L
  induction L with
  | nil => intro acc y h; cases h
  | cons x L ih =>
    intro acc y h
    have h : fbs val L (some (val x, x)) = some y := h
    show fbs val L (fb1 val acc x) = _
    rw [fb1_ltp]
    cases L with
    | nil =>
      cases h
      rfl
    | cons x2 L2 =>
      obtain ⟨z, hz⟩ : ∃ z, fbs val (x2 :: L2) none = some z := fbs_some L2 _
      rw [ih _ z hz] at h ⊢
      exact ltp_ltp h
theorem fbs_map {c s : Nat} (hv : ∀ l, val (s :: l) = c + val2 l) : ∀ (L : List (List Nat)) (acc : Option (Nat × List Nat)), fbs val (L.map (fun l => s :: l)) (acc.map (fun y => (c + y.1, s :: y.2))) = (fbs val2 L acc).map (fun y => (c + y.1, s :: y.2)) := by
  intro L
  induction L with
  | nil => intro acc; rfl
  | cons x L ih =>
    intro acc
    show fbs val (L.map (fun l => s :: l)) (fb1 val (acc.map (fun y => (c + y.1, s :: y.2))) (s :: x)) = (fbs val2 L (fb1 val2 acc x)).map _
    rw [← ih]
    congr 1
    cases acc with
    | none =>
      show some (val (s :: x), s :: x) = some (c + val2 x, s :: x)
      rw [hv]
    | some y =>
      show (if val (s :: x) < c + y.1 then some (val (s :: x), s :: x) else some (c + y.1, s :: y.2)) = (if val2 x < y.1 then some (val2 x, x) else some y).map (fun y => (c + y.1, s :: y.2))
      rw [hv]
      by_cases h : val2 x < y.1
      · rw [if_pos h, if_pos (by omega)]; rfl
      · rw [if_neg h, if_neg (by omega)]; rfl
/-- how many are up to a bound -/
def ctl (val : List Nat → Nat) (G : Nat) : List (List Nat) → Nat
  | [] => 0
  | l :: L => (if val l ≤ G then 1 else 0) + ctl val G L
theorem ctl_app {G : Nat} : ∀ (A B : List (List Nat)), ctl val G (A ++ B) = ctl val G A + ctl val G B := by
  intro A B
  induction A with
  | nil => show _ = 0 + _; rw [Nat.zero_add]; rfl
  | cons x A ih =>
    show _ + ctl val G (A ++ B) = _ + ctl val G A + _
    rw [ih, Nat.add_assoc]
theorem ctl_map {G c s : Nat} (hv : ∀ l, val (s :: l) = c + val2 l) (hc : c ≤ G) : ∀ (L : List (List Nat)), ctl val G (L.map (fun l => s :: l)) = ctl val2 (G - c) L := by
  intro L
  induction L with
  | nil => rfl
  | cons x L ih =>
    show (if val (s :: x) ≤ G then 1 else 0) + ctl val G (L.map (fun l => s :: l)) = (if val2 x ≤ G - c then 1 else 0) + ctl val2 (G - c) L
    rw [ih, hv]
    congr 1
    by_cases h : val2 x ≤ G - c
    · rw [if_pos h, if_pos (by omega)]
    · rw [if_neg h, if_neg (by omega)]
theorem ctl_all {G : Nat} : ∀ (L : List (List Nat)), (∀ l, l ∈ L → val l ≤ G) → ctl val G L = L.length := by
  intro L
  induction L with
  | nil => intro _; rfl
  | cons x L ih =>
    intro h
    show (if val x ≤ G then 1 else 0) + ctl val G L = L.length + 1
    rw [if_pos (h x (List.mem_cons_self)), ih (fun l hl => h l (List.mem_cons_of_mem _ hl)), Nat.add_comm]
theorem ctl_none {G : Nat} : ∀ (L : List (List Nat)), (∀ l, l ∈ L → G < val l) → ctl val G L = 0 := by
  intro L
  induction L with
  | nil => intro _; rfl
  | cons x L ih =>
    intro h
    show (if val x ≤ G then 1 else 0) + ctl val G L = 0
    have := h x (List.mem_cons_self)
    rw [if_neg (by omega), ih (fun l hl => h l (List.mem_cons_of_mem _ hl))]
end FB
section OM
variable {S : Type} {n : Nat} {mk : S → Nat} {nx : S → Nat → S} {w : S → Nat → Nat} {V Mx : S → Nat} {s0 : S → Nat} {I : Nat → S → Prop} {wys : Nat → Nat}
def tot (nx : S → Nat → S) (w : S → Nat → Nat) : List Nat → S → Nat
  | [], _ => 0
  | s :: l, a => w a s + tot nx w l (nx a s)
def grd (nx : S → Nat → S) (s0 : S → Nat) : Nat → S → List Nat
  | 0, _ => []
  | m + 1, a => s0 a :: grd nx s0 m (nx a (s0 a))
theorem opt_main (hmk : ∀ a s, mk (nx a s) = mk a ||| 1 <<< s)
    (hI : ∀ m a s, I (m + 1) a → s < n → bt (mk a) s = 0 → I m (nx a s))
    (hV0 : ∀ a, I 0 a → V a = 0)
    (hV1 : ∀ m a s, I (m + 1) a → s < n → bt (mk a) s = 0 → V a ≤ w a s + V (nx a s))
    (hs0 : ∀ m a, I (m + 1) a → s0 a < n ∧ bt (mk a) (s0 a) = 0 ∧ w a (s0 a) + V (nx a (s0 a)) = V a ∧ ∀ s, s < s0 a → bt (mk a) s = 0 → w a s + V (nx a s) ≠ V a) :
    ∀ m a, I m a → fbs (fun l => tot nx w l a) (pmA n m (mk a)) none = some (V a, grd nx s0 m a) := by
  intro m
  induction m with
  | zero =>
    intro a ha
    show some (0, []) = _
    rw [hV0 a ha]
    rfl
  | succ m ih =>
    intro a ha
    obtain ⟨h1, h2, h3, h4⟩ := hs0 m a ha
    have blk : ∀ s, s < n → bt (mk a) s = 0 → fbs (fun l => tot nx w l a) ((pmA n m (mk a ||| 1 <<< s)).map (fun l => s :: l)) none = some (w a s + V (nx a s), s :: grd nx s0 m (nx a s)) := by
      intro s hs hb
      have e := fbs_map (val := fun l => tot nx w l a) (val2 := fun l => tot nx w l (nx a s)) (c := w a s) (s := s) (fun l => rfl) (pmA n m (mk a ||| 1 <<< s)) none
      refine Eq.trans e ?_
      rw [← hmk, ih _ (hI m a s ha hs hb)]
      rfl
    have key : ∀ k s acc, s + k = n →
        ((s ≤ s0 a ∧ (acc = none ∨ ∃ y, acc = some y ∧ V a < y.1)) → fbs (fun l => tot nx w l a) (pmB (fun s => pmA n m (mk a ||| 1 <<< s)) (mk a) k s) acc = some (V a, s0 a :: grd nx s0 m (nx a (s0 a)))) ∧
        ((∃ y, acc = some y ∧ y.1 = V a) → fbs (fun l => tot nx w l a) (pmB (fun s => pmA n m (mk a ||| 1 <<< s)) (mk a) k s) acc = acc) := by
      intro k
      induction k with
      | zero =>
        intro s acc hk
        exact ⟨fun h => by omega, fun _ => rfl⟩
      | succ k ihk =>
        intro s acc hk
        have hs : s < n := by omega
        have app : fbs (fun l => tot nx w l a) (pmB (fun s => pmA n m (mk a ||| 1 <<< s)) (mk a) (k + 1) s) acc = fbs (fun l => tot nx w l a) (pmB (fun s => pmA n m (mk a ||| 1 <<< s)) (mk a) k (s + 1)) (fbs (fun l => tot nx w l a) (if bt (mk a) s = 0 then (pmA n m (mk a ||| 1 <<< s)).map (fun l => s :: l) else []) acc) := List.foldl_append
        rw [app]
        by_cases hb : bt (mk a) s = 0
        · rw [if_pos hb, fbs_acc _ acc _ (blk s hs hb)]
          have hge := hV1 m a s ha hs hb
          refine ⟨fun h => ?_, fun h => ?_⟩
          · by_cases hq : s = s0 a
            · have e : ltp acc (w a s + V (nx a s), s :: grd nx s0 m (nx a s)) = some (V a, s0 a :: grd nx s0 m (nx a (s0 a))) := by
                rw [hq, h3]
                rcases h.2 with h5 | ⟨y, h5, h6⟩
                · rw [h5]; rfl
                · rw [h5]
                  show (if V a < y.1 then some _ else some y) = _
                  rw [if_pos h6]
              rw [e]
              exact (ihk (s + 1) _ (by omega)).2 ⟨_, rfl, rfl⟩
            · have hne := h4 s (by omega) hb
              refine (ihk (s + 1) _ (by omega)).1 ⟨by omega, Or.inr ?_⟩
              rcases h.2 with h5 | ⟨y, h5, h6⟩
              · rw [h5]
                exact ⟨_, rfl, by show V a < w a s + V (nx a s); omega⟩
              · rw [h5]
                show ∃ y', (if w a s + V (nx a s) < y.1 then some _ else some y) = some y' ∧ _
                by_cases h7 : w a s + V (nx a s) < y.1
                · rw [if_pos h7]
                  exact ⟨_, rfl, by show V a < w a s + V (nx a s); omega⟩
                · rw [if_neg h7]
                  exact ⟨_, rfl, h6⟩
          · obtain ⟨y, h5, h6⟩ := h
            have e : ltp acc (w a s + V (nx a s), s :: grd nx s0 m (nx a s)) = acc := by
              rw [h5]
              show (if w a s + V (nx a s) < y.1 then some _ else some y) = _
              rw [if_neg (by omega)]
            rw [e]
            exact (ihk (s + 1) _ (by omega)).2 ⟨y, h5, h6⟩
        · rw [if_neg hb]
          refine ⟨fun h => ?_, fun h => (ihk (s + 1) acc (by omega)).2 h⟩
          have : s ≠ s0 a := fun e => hb (e ▸ h2)
          exact (ihk (s + 1) acc (by omega)).1 ⟨by omega, h.2⟩
    exact (key n 0 none (by omega)).1 ⟨Nat.zero_le _, Or.inl rfl⟩
theorem mem_pmB {f : Nat → List (List Nat)} {g : Nat} {l : List Nat} : ∀ k s, l ∈ pmB f g k s → ∃ s' l', s ≤ s' ∧ s' < s + k ∧ bt g s' = 0 ∧ l' ∈ f s' ∧ l = s' :: l' := by
  intro k
  induction k with
  | zero => intro s h; cases h
  | succ k ih =>
    intro s h
    rcases List.mem_append.mp h with h | h
    · by_cases hb : bt g s = 0
      · rw [if_pos hb] at h
        obtain ⟨l', h1, h2⟩ := List.mem_map.mp h
        exact ⟨s, l', Nat.le_refl _, by omega, hb, h1, h2.symm⟩
      · rw [if_neg hb] at h; cases h
    · obtain ⟨s', l', h1, h2, h3⟩ := ih (s + 1) h
      exact ⟨s', l', by omega, by omega, h3⟩
theorem opt_bd (hmk : ∀ a s, mk (nx a s) = mk a ||| 1 <<< s)
    (hI : ∀ m a s, I (m + 1) a → s < n → bt (mk a) s = 0 → I m (nx a s))
    (hV0 : ∀ a, I 0 a → V a = 0)
    (hV1 : ∀ m a s, I (m + 1) a → s < n → bt (mk a) s = 0 → V a ≤ w a s + V (nx a s))
    (hM1 : ∀ m a s, I (m + 1) a → s < n → bt (mk a) s = 0 → w a s + Mx (nx a s) ≤ Mx a) :
    ∀ m a, I m a → ∀ l, l ∈ pmA n m (mk a) → V a ≤ tot nx w l a ∧ tot nx w l a ≤ Mx a := by
  intro m
  induction m with
  | zero =>
    intro a ha l hl
    have hl : l ∈ [[]] := hl
    obtain rfl : l = [] := by simpa using hl
    rw [hV0 a ha]
    exact ⟨Nat.le_refl _, Nat.zero_le _⟩
  | succ m ih =>
    intro a ha l hl
    obtain ⟨s, l', h1, h2, h3, h4, rfl⟩ := mem_pmB n 0 hl
    have hs : s < n := by omega
    have h4 : l' ∈ pmA n m (mk a ||| 1 <<< s) := h4
    rw [← hmk] at h4
    have h5 := ih _ (hI m a s ha hs h3) l' h4
    have h6 := hV1 m a s ha hs h3
    have h7 := hM1 m a s ha hs h3
    show V a ≤ w a s + tot nx w l' (nx a s) ∧ w a s + tot nx w l' (nx a s) ≤ Mx a
    omega
/-- how many, as the class counts -/
def cU (n : Nat) (mk : S → Nat) (nx : S → Nat → S) (w : S → Nat → Nat) (V Mx : S → Nat) (wys : Nat → Nat) : Nat → S → Nat → Nat
  | 0, _, _ => 0
  | m + 1, a, G => it (fun s c => if bt (mk a) s = 0 then c + (if w a s + Mx (nx a s) ≤ G then wys m else if w a s + V (nx a s) ≤ G then cU n mk nx w V Mx wys m (nx a s) (G - w a s) else 0) else c) n 0 0
theorem opt_ct (hmk : ∀ a s, mk (nx a s) = mk a ||| 1 <<< s)
    (hI : ∀ m a s, I (m + 1) a → s < n → bt (mk a) s = 0 → I m (nx a s))
    (hV0 : ∀ a, I 0 a → V a = 0) (hM0 : ∀ a, I 0 a → Mx a = 0)
    (hV1 : ∀ m a s, I (m + 1) a → s < n → bt (mk a) s = 0 → V a ≤ w a s + V (nx a s))
    (hM1 : ∀ m a s, I (m + 1) a → s < n → bt (mk a) s = 0 → w a s + Mx (nx a s) ≤ Mx a)
    (hlen : ∀ m a, I m a → (pmA n m (mk a)).length = wys m) :
    ∀ m a G, I (m + 1) a → ctl (fun l => tot nx w l a) G (pmA n (m + 1) (mk a)) = cU n mk nx w V Mx wys (m + 1) a G := by
  have bd := opt_bd (Mx := Mx) hmk hI hV0 hV1 hM1
  have one : ∀ m, (∀ a G, 0 < m → I m a → ctl (fun l => tot nx w l a) G (pmA n m (mk a)) = cU n mk nx w V Mx wys m a G) → ∀ a G, I (m + 1) a → ctl (fun l => tot nx w l a) G (pmA n (m + 1) (mk a)) = cU n mk nx w V Mx wys (m + 1) a G := by
    intro m ih a G ha
    have key : ∀ k s c, s + k = n → c + ctl (fun l => tot nx w l a) G (pmB (fun s => pmA n m (mk a ||| 1 <<< s)) (mk a) k s) = it (fun s c => if bt (mk a) s = 0 then c + (if w a s + Mx (nx a s) ≤ G then wys m else if w a s + V (nx a s) ≤ G then cU n mk nx w V Mx wys m (nx a s) (G - w a s) else 0) else c) k s c := by
      intro k
      induction k with
      | zero => intro s c _; rfl
      | succ k ihk =>
        intro s c hk
        have hs : s < n := by omega
        show c + ctl _ G (_ ++ pmB (fun s => pmA n m (mk a ||| 1 <<< s)) (mk a) k (s + 1)) = it _ k (s + 1) (if bt (mk a) s = 0 then c + _ else c)
        rw [ctl_app, ← Nat.add_assoc]
        by_cases hb : bt (mk a) s = 0
        · rw [if_pos hb, if_pos hb]
          have hI' := hI m a s ha hs hb
          have b' := bd m (nx a s) hI'
          rw [hmk] at b'
          have e : ctl (fun l => tot nx w l a) G ((pmA n m (mk a ||| 1 <<< s)).map (fun l => s :: l)) = (if w a s + Mx (nx a s) ≤ G then wys m else if w a s + V (nx a s) ≤ G then cU n mk nx w V Mx wys m (nx a s) (G - w a s) else 0) := by
            by_cases h1 : w a s + Mx (nx a s) ≤ G
            · rw [if_pos h1, ctl_map (val2 := fun l => tot nx w l (nx a s)) (c := w a s) (fun l => rfl) (by omega), ctl_all _ (fun l hl => ?_)]
              · have := hlen m (nx a s) hI'
                rw [hmk] at this
                exact this
              · have := (b' l hl).2
                show tot nx w l (nx a s) ≤ G - w a s
                omega
            · rw [if_neg h1]
              by_cases h2 : w a s + V (nx a s) ≤ G
              · rw [if_pos h2, ctl_map (val2 := fun l => tot nx w l (nx a s)) (c := w a s) (fun l => rfl) (by omega)]
                have hm : 0 < m := by
                  rcases Nat.eq_zero_or_pos m with h | h
                  · subst h
                    have := hM0 _ hI'
                    have := hV0 _ hI'
                    omega
                  · exact h
                have := ih (nx a s) (G - w a s) hm hI'
                rw [hmk] at this
                exact this
              · rw [if_neg h2]
                refine ctl_none _ (fun l hl => ?_)
                obtain ⟨l', h3, rfl⟩ := List.mem_map.mp hl
                have := (b' l' h3).1
                show G < w a s + tot nx w l' (nx a s)
                omega
          rw [e]
          exact ihk (s + 1) _ (by omega)
        · rw [if_neg hb, if_neg hb]
          exact ihk (s + 1) _ (by omega)
    have := key n 0 0 (by omega)
    rw [Nat.zero_add] at this
    exact this
  intro m
  induction m with
  | zero => exact one 0 (fun a G h => absurd h (Nat.lt_irrefl _))
  | succ m ih => exact one (m + 1) (fun a G _ h => ih a G h)
end OM
