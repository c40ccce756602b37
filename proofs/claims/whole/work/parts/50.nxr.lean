/-! THE NEXT ROW, purely; that it goes through all orders (computed) -/
def fIx (f : Nat → Nat) : Nat → Option Nat
  | 0 => none
  | i + 1 => if f (i + 1) < f i then fIx f i else some i
def fJx (f : Nat → Nat) (v : Nat) : Nat → Nat
  | 0 => 0
  | j + 1 => if f (j + 1) < v then fJx f v j else j + 1
def swf (f : Nat → Nat) (i j : Nat) : Nat → Nat := fun k => if k = j then f i else if k = i then f j else f k
def rvf (f : Nat → Nat) (lo hi : Nat) : Nat → Nat := fun k => if lo ≤ k ∧ k ≤ hi then f (lo + hi - k) else f k
def nxf (n : Nat) (f : Nat → Nat) : Option (Nat → Nat) := match fIx f (n - 1) with
  | none => none
  | some i => some (rvf (swf f i (fJx f (f i) (n - 1))) (i + 1) (n - 1))
def gl (l : List Nat) : Nat → Nat := fun k => l.getD k 0
def tl (g : Nat → Nat) : Nat → Nat → List Nat
  | 0, _ => []
  | k + 1, i => g i :: tl g k (i + 1)
def leq : List Nat → List Nat → Bool
  | [], [] => true
  | a :: l, b :: m => Nat.beq a b && leq l m
  | _, _ => false
def nxq (n : Nat) (l : List Nat) (m : List (List Nat)) : Bool := match nxf n (gl l), m with
  | none, [] => true
  | some g, l' :: _ => leq (tl g n 0) l'
  | _, _ => false
def chn (n : Nat) : List (List Nat) → Bool
  | [] => true
  | l :: L => nxq n l L && chn n L
def hdq (n : Nat) : List (List Nat) → Bool
  | [] => false
  | l :: _ => leq l (tl (fun k => k) n 0)
def wy (m : Nat) : Nat := [1, 1, 2, 6, 24, 120, 720, 5040].getD m 0
theorem chn_ok : ∀ n, n < 8 → (chn n (pmA n n 0) && hdq n (pmA n n 0)) = true := by decide +kernel
theorem len_ok : ∀ n, n < 8 → ∀ g, g < 2 ^ n → (pmA n (n - bc g) g).length = wy (n - bc g) := by decide +kernel
theorem leq_eq : ∀ {l m : List Nat}, leq l m = true → l = m := by
  intro l
  induction l with
  | nil =>
    intro m h
    cases m with
    | nil => rfl
    | cons b m => cases h
  | cons a l ih =>
    intro m h
    cases m with
    | nil => cases h
    | cons b m =>
      have h : (Nat.beq a b && leq l m) = true := h
      rw [Bool.and_eq_true] at h
      rw [Nat.eq_of_beq_eq_true h.1, ih h.2]
theorem tl_get {g : Nat → Nat} : ∀ k i j, j < k → (tl g k i).getD j 0 = g (i + j) := by
  intro k
  induction k with
  | zero => intro i j h; omega
  | succ k ih =>
    intro i j h
    cases j with
    | zero => rfl
    | succ j =>
      show (tl g k (i + 1)).getD j 0 = _
      rw [ih (i + 1) j (by omega), show i + 1 + j = i + (j + 1) by omega]
theorem pm_mem {n : Nat} : ∀ m g l, l ∈ pmA n m g → l.length = m ∧ ∀ k, k < m → gl l k < n := by
  intro m
  induction m with
  | zero =>
    intro g l h
    have h : l ∈ [[]] := h
    obtain rfl : l = [] := by simpa using h
    exact ⟨rfl, fun k hk => absurd hk (Nat.not_lt_zero _)⟩
  | succ m ih =>
    intro g l h
    obtain ⟨s, l', h1, h2, h3, h4, rfl⟩ := mem_pmB n 0 h
    obtain ⟨h5, h6⟩ := ih _ l' h4
    refine ⟨by rw [List.length_cons, h5], fun k hk => ?_⟩
    cases k with
    | zero => show s < n; omega
    | succ k => exact h6 k (by omega)
