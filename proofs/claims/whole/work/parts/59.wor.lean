/-! OTHER WILLS, purely -/
/-- what comes by these wills -/
def wo (t : Th) (w : Nat) : Nat := oc t w 7 0
def mdF (t : Th) (s v : Nat) (c b : Nat) : Nat := if an c (st t) = 0 ∧ (b = 999 ∨ bc c < bc b) ∧ bt (wo t (wl t ^^^ c)) s = v then c else b
def mdn (t : Th) (s v : Nat) : Nat := it (mdF t s v) (2 ^ t.n) 0 999
def nb9 (b : Nat) : Int32 := if b = 999 then -1 else nI b
/-- one if a world doesn't differ in a set -/
def al1 (t : Th) (g w : Nat) : Nat := if an w (st t) = 0 then (if (wo t w ^^^ hp t) &&& g = 0 then 1 else 0) else 0
def tht (t : Th) (p : Nat) : Nat := it (fun c a => a + al1 t (ga t p) c) (2 ^ t.n) 0 0
def thm (t : Th) (p : Nat) : Nat := it (fun c a => a + (if an c (st t) = 0 then (if (wo t (wl t ^^^ c) ^^^ hp t) &&& ga t p = 0 then 1 else 0) else 0)) (2 ^ t.n) 0 0
def Sb : Nat → (Nat → Nat) → Nat
  | 0, F => F 0
  | n + 1, F => Sb n F + Sb n (fun c => F (c + 2 ^ n))
section WO
variable {t : Th}
theorem it_add {α : Type} {f : Nat → α → α} : ∀ k1 k2 i a, it f (k1 + k2) i a = it f k2 (i + k1) (it f k1 i a) := by
  intro k1
  induction k1 with
  | zero => intro k2 i a; rw [Nat.zero_add]; rfl
  | succ k1 ih =>
    intro k2 i a
    rw [show k1 + 1 + k2 = (k1 + k2) + 1 by omega]
    show it f (k1 + k2) (i + 1) (f i a) = it f k2 (i + (k1 + 1)) (it f k1 (i + 1) (f i a))
    rw [ih, show i + 1 + k1 = i + (k1 + 1) by omega]
theorem Sb_it : ∀ n (F : Nat → Nat) i a, it (fun c a => a + F c) (2 ^ n) i a = a + Sb n (fun c => F (c + i)) := by
  intro n
  induction n with
  | zero => intro F i a; show a + F i = a + F (0 + i); rw [Nat.zero_add]
  | succ n ih =>
    intro F i a
    rw [Nat.pow_succ, Nat.mul_two, it_add, ih, ih]
    show _ = a + (Sb n _ + Sb n _)
    rw [Nat.add_assoc]
    congr 2
    congr 1
    funext c
    congr 1
    omega
theorem Sb_congr : ∀ n (F G : Nat → Nat), (∀ c, c < 2 ^ n → F c = G c) → Sb n F = Sb n G := by
  intro n
  induction n with
  | zero => intro F G h; exact h 0 (by decide)
  | succ n ih =>
    intro F G h
    have hp : 2 ^ (n + 1) = 2 ^ n + 2 ^ n := by rw [Nat.pow_succ, Nat.mul_two]
    show Sb n F + Sb n _ = Sb n G + Sb n _
    rw [ih F G (fun c hc => h c (by omega)), ih _ _ (fun c hc => h (c + 2 ^ n) (by omega))]
theorem xr0 : ∀ n, n < 7 → ∀ a, a < 2 ^ n → ∀ b, b < 2 ^ n → ((Nat.beq ((a + 2 ^ n) ^^^ b) ((a ^^^ b) + 2 ^ n) && Nat.beq (a ^^^ (b + 2 ^ n)) ((a ^^^ b) + 2 ^ n)) && (Nat.beq ((a + 2 ^ n) ^^^ (b + 2 ^ n)) (a ^^^ b) && Nat.blt (a ^^^ b) (2 ^ n))) = true := by decide +kernel
theorem xr (n : Nat) (hn : n < 7) (a : Nat) (ha : a < 2 ^ n) (b : Nat) (hb : b < 2 ^ n) : (a + 2 ^ n) ^^^ b = (a ^^^ b) + 2 ^ n ∧ a ^^^ (b + 2 ^ n) = (a ^^^ b) + 2 ^ n ∧ (a + 2 ^ n) ^^^ (b + 2 ^ n) = a ^^^ b ∧ a ^^^ b < 2 ^ n := by
  have h := xr0 n hn a ha b hb
  rw [Bool.and_eq_true, Bool.and_eq_true, Bool.and_eq_true] at h
  exact ⟨Nat.eq_of_beq_eq_true h.1.1, Nat.eq_of_beq_eq_true h.1.2, Nat.eq_of_beq_eq_true h.2.1, by simpa using h.2.2⟩
theorem Sb_x : ∀ n, n < 8 → ∀ (F : Nat → Nat) w, w < 2 ^ n → Sb n (fun c => F (w ^^^ c)) = Sb n F := by
  intro n
  induction n with
  | zero =>
    intro _ F w hw
    obtain rfl : w = 0 := by have : w < 1 := hw; omega
    rfl
  | succ n ih =>
    intro hn F w hw
    have hp : 2 ^ (n + 1) = 2 ^ n + 2 ^ n := by rw [Nat.pow_succ, Nat.mul_two]
    show Sb n (fun c => F (w ^^^ c)) + Sb n (fun c => F (w ^^^ (c + 2 ^ n))) = Sb n F + Sb n (fun c => F (c + 2 ^ n))
    by_cases q : w < 2 ^ n
    · rw [ih (by omega) F w q, Sb_congr n (fun c => F (w ^^^ (c + 2 ^ n))) (fun c => F ((w ^^^ c) + 2 ^ n)) (fun c hc => by rw [(xr n (by omega) w q c hc).2.1]), ih (by omega) (fun c => F (c + 2 ^ n)) w q]
    · obtain ⟨w1, rfl⟩ : ∃ w1, w = w1 + 2 ^ n := ⟨w - 2 ^ n, by omega⟩
      have q1 : w1 < 2 ^ n := by omega
      rw [Sb_congr n (fun c => F ((w1 + 2 ^ n) ^^^ c)) (fun c => F ((w1 ^^^ c) + 2 ^ n)) (fun c hc => by rw [(xr n (by omega) w1 q1 c hc).1]), ih (by omega) (fun c => F (c + 2 ^ n)) w1 q1,
        Sb_congr n (fun c => F ((w1 + 2 ^ n) ^^^ (c + 2 ^ n))) (fun c => F (w1 ^^^ c)) (fun c hc => by rw [(xr n (by omega) w1 q1 c hc).2.2.1]), ih (by omega) F w1 q1, Nat.add_comm]
theorem bt_tb {a i : Nat} : bt a i = (a.testBit i).toNat := by
  unfold bt
  rw [Nat.toNat_testBit]
theorem bt_xor {a b i : Nat} : bt (a ^^^ b) i = bt a i ^^^ bt b i := by
  rw [bt_tb, bt_tb, bt_tb, Nat.testBit_xor]
  cases a.testBit i <;> cases b.testBit i <;> rfl
theorem bt_and {a b i : Nat} : bt (a &&& b) i = bt a i &&& bt b i := by
  rw [bt_tb, bt_tb, bt_tb, Nat.testBit_and]
  cases a.testBit i <;> cases b.testBit i <;> rfl
/-- only the wills of scenes without causes count -/
theorem wo_c (w w' : Nat) (h : ∀ i, i < t.n → t.C i = 0 → bt w i = bt w' i) : wo t w = wo t w' := by
  refine it_congr (n := t.n) (fun i a hi => ?_) t.n 0 0 (by omega)
  unfold ocf
  by_cases q : t.C i = 0
  · rw [if_pos q, if_pos q, h i hi q]
  · rw [if_neg q, if_neg q]
theorem st_k : ∀ k, it (fun i a => a ||| (if t.C i = 0 then 1 else 0) <<< i) k 0 0 < 2 ^ k ∧ ∀ i, i < k → bt (it (fun i a => a ||| (if t.C i = 0 then 1 else 0) <<< i) k 0 0) i = if t.C i = 0 then 1 else 0 := by
  refine it_ind (J := fun k b => b < 2 ^ k ∧ ∀ i, i < k → bt b i = if t.C i = 0 then 1 else 0) ⟨by decide, fun i hi => absurd hi (Nat.not_lt_zero _)⟩ (fun k b h => ?_)
  obtain ⟨h1, h2⟩ := h
  rw [Nat.zero_add]
  have hle : (if t.C k = 0 then 1 else 0) ≤ 1 := by split <;> omega
  generalize hq : (if t.C k = 0 then 1 else 0) = v at hle
  rw [orb h1]
  refine ⟨?_, fun i hi => ?_⟩
  · rw [Nat.pow_succ]
    have : v * 2 ^ k ≤ 1 * 2 ^ k := Nat.mul_le_mul_right _ hle
    omega
  · unfold bt
    by_cases he : i = k
    · subst he
      rw [Nat.add_mul_div_right _ _ (Nat.two_pow_pos _), Nat.div_eq_of_lt h1, hq]
      omega
    · have hlt : i < k := by omega
      obtain ⟨j, rfl⟩ : ∃ j, k = i + 1 + j := ⟨k - i - 1, by omega⟩
      have e : v * 2 ^ (i + 1 + j) = (v * 2 ^ j * 2) * 2 ^ i := by
        have e2 : 2 ^ (i + 1 + j) = 2 ^ j * 2 * 2 ^ i := by
          rw [Nat.pow_add, Nat.pow_succ]
          simp only [Nat.mul_comm, Nat.mul_left_comm, Nat.mul_assoc]
        rw [e2]
        simp only [Nat.mul_assoc]
      rw [e, Nat.add_mul_div_right _ _ (Nat.two_pow_pos _), Nat.add_mul_mod_self_right]
      exact h2 i hlt
theorem st_lt : st t < 2 ^ t.n := (st_k t.n).1
theorem st_bt {i : Nat} (h : i < t.n) : bt (st t) i = if t.C i = 0 then 1 else 0 := (st_k t.n).2 i h
theorem an_x0 : ∀ s, s < 128 → ∀ w, w < 128 → Nat.beq (an w s) 0 = true → ∀ c, c < 128 → (Nat.beq (an (w ^^^ c) s) 0 == Nat.beq (an c s) 0) = true := by
  intro s hs w hw h c hc
  have hw0 : an w s = 0 := Nat.eq_of_beq_eq_true h
  have e : an (w ^^^ c) s = an c s := by
    unfold an at hw0 ⊢
    refine Nat.eq_of_testBit_eq (fun i => ?_)
    have := congrArg (fun x => Nat.testBit x i) hw0
    simp only [Nat.testBit_and, Nat.testBit_xor, Nat.zero_testBit] at this ⊢
    revert this
    cases Nat.testBit w i <;> cases Nat.testBit c i <;> cases (Nat.testBit 127 i ^^ Nat.testBit s i) <;> simp
  rw [e]
  exact beq_self_eq_true _
theorem an_and {w s : Nat} (hs : s < 128) : an (w &&& s) s = 0 := by
  unfold an
  refine Nat.eq_of_testBit_eq (fun i => ?_)
  simp only [Nat.testBit_and, Nat.testBit_xor, Nat.zero_testBit]
  have h127 : Nat.testBit 127 i = decide (i < 7) := by
    rw [show 127 = 2 ^ 7 - 1 from rfl, Nat.testBit_two_pow_sub_one]
  rw [h127]
  by_cases q : i < 7
  · simp [q]
  · have : s.testBit i = false := Nat.testBit_lt_two_pow (Nat.lt_of_lt_of_le hs (show 2 ^ 7 ≤ 2 ^ i from Nat.pow_le_pow_right (by decide) (by omega)))
    simp [this]
/-- the class counts worlds, the model changes: as many -/
theorem tht_thm (ok : tOK t) (p : Nat) : thm t p = tht t p := by
  have hn := ok.n
  have h2n := p128 ok
  have hs := st_lt (t := t)
  unfold thm tht
  rw [Sb_it, Sb_it, Nat.zero_add, Nat.zero_add]
  have hw : wl t &&& st t < 2 ^ t.n := Nat.lt_of_le_of_lt Nat.and_le_right hs
  rw [← Sb_x t.n (by omega) (fun c => al1 t (ga t p) (c + 0)) (wl t &&& st t) hw]
  refine Sb_congr t.n _ _ (fun c hc => ?_)
  show (if an (c + 0) (st t) = 0 then (if (wo t (wl t ^^^ (c + 0)) ^^^ hp t) &&& ga t p = 0 then 1 else 0) else 0) = al1 t (ga t p) ((wl t &&& st t) ^^^ c + 0)
  rw [Nat.add_zero]
  unfold al1
  have e1 : wo t (wl t ^^^ c) = wo t ((wl t &&& st t) ^^^ c) := by
    refine wo_c _ _ (fun i hi h0 => ?_)
    rw [bt_xor, bt_xor, bt_and, st_bt hi, if_pos h0]
    have := @bt_le (wl t) i
    have e : bt (wl t) i = 0 ∨ bt (wl t) i = 1 := by omega
    rcases e with e | e <;> rw [e] <;> rfl
  have e2 : (an ((wl t &&& st t) ^^^ c) (st t) = 0) = (an c (st t) = 0) := by
    have h := an_x0 (st t) (by omega) (wl t &&& st t) (by omega) (by rw [an_and (by omega)]; rfl) c (by omega)
    have h : Nat.beq (an ((wl t &&& st t) ^^^ c) (st t)) 0 = Nat.beq (an c (st t)) 0 := by simpa using h
    refine propext ⟨fun q => ?_, fun q => ?_⟩
    · rw [q] at h; exact Nat.eq_of_beq_eq_true h.symm
    · rw [q] at h; exact Nat.eq_of_beq_eq_true h
  simp only [e2, e1]
end WO
