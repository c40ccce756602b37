/-! A SCENE OPENED -/
def vlS (k m c T A : Nat) : Nat → Nat
  | 0 => k
  | 1 => m
  | 2 => c
  | 3 => T
  | 4 => A
  | 5 => 4
  | 6 => 0
  | 7 => 0
  | _ => 1
def Th.opn (t : Th) (v : Nat → Nat) : Th := fun a b => if a = 10 then t.n + 1 else if a = 9 then (if b = 0 then t.n else t.o (b - 1)) else if a ≤ 8 ∧ b = t.n then v a else t a b
section OPN
variable {d : Nat} {E : pEv} {r r' r1 r2 : Nat → Nat → Int32} {t t' : Th} {X : Tx} {Q : Option Value → pH → Prop} {v : Nat → Nat}
theorem opn_c {c i : Nat} (hc : c ≤ 8) : (t.opn v) c i = if i = t.n then v c else t c i := by
  unfold Th.opn
  rw [if_neg (by omega), if_neg (by omega)]
  by_cases q : i = t.n
  · rw [if_pos ⟨hc, q⟩, if_pos q]
  · rw [if_neg (fun w => q w.2), if_neg q]
theorem opn_p {c i : Nat} {p : Nat → Prop} (hc : c ≤ 8) (h1 : i = t.n → p (v c)) (h2 : i < t.n → p (t c i)) (hi : i < t.n + 1) : p ((t.opn v) c i) := by
  rw [opn_c hc]
  by_cases q : i = t.n
  · rw [if_pos q]; exact h1 q
  · rw [if_neg q]; exact h2 (by omega)
theorem opn_v {c i : Nat} {y : Int32} (hc : c ≤ 8) (h1 : i = t.n → y = nI (v c)) (h2 : i < t.n → y = nI (t c i)) (hi : i < t.n + 1) : y = nI ((t.opn v) c i) := opn_p (p := fun z => y = nI z) hc h1 h2 hi
theorem opn_P {i : Nat} (hi : i < t.n) : (t.opn v).P i = t.P i := (opn_c (by omega)).trans (if_neg (by omega))
theorem opn_Pn : (t.opn v).P t.n = v 5 := (opn_c (by omega)).trans (if_pos rfl)
theorem tOK_opn (ok : tOK t) (h7 : t.n < 7) (h0 : v 0 < 7) (h1 : v 1 < 10) (h2 : v 2 < 2 ^ t.n) (h3 : 1 ≤ v 3 ∧ v 3 ≤ 30) (h4 : v 4 < 64) (h5 : v 5 = 4) (h8 : v 8 ≤ 1) : tOK (t.opn v) := by
  refine ⟨h7, ?_, ?_, ?_, ?_, ?_, ?_, ?_, ?_, ?_, ?_, ?_, ok.b⟩
  · intro i (hi : i < t.n + 1); exact opn_p (c := 0) (p := fun z => z < 7) (by omega) (fun _ => h0) (fun w => ok.K i w) hi
  · intro i (hi : i < t.n + 1); exact opn_p (c := 1) (p := fun z => z < 10) (by omega) (fun _ => h1) (fun w => ok.M i w) hi
  · intro i (hi : i < t.n + 1); exact opn_p (c := 2) (p := fun z => z < 2 ^ i) (by omega) (fun w => by rw [w]; exact h2) (fun w => ok.C i w) hi
  · intro i (hi : i < t.n + 1); exact opn_p (c := 3) (p := fun z => 1 ≤ z ∧ z ≤ 30) (by omega) (fun _ => h3) (fun w => ok.T i w) hi
  · intro i (hi : i < t.n + 1); exact opn_p (c := 4) (p := fun z => z < 64) (by omega) (fun _ => h4) (fun w => ok.A i w) hi
  · intro i (hi : i < t.n + 1); exact opn_p (c := 5) (p := fun z => z ≤ 4) (by omega) (fun _ => by rw [h5]; omega) (fun w => ok.P i w) hi
  · intro i (hi : i < t.n + 1) q
    rcases Nat.lt_or_ge i t.n with w | w
    · rw [opn_P w] at q
      exact opn_p (c := 6) (p := fun z => z ≤ 5) (by omega) (fun e => by omega) (fun _ => ok.F i w q) hi
    · obtain rfl : i = t.n := by omega
      rw [opn_Pn, h5] at q; omega
  · intro i (hi : i < t.n + 1) q
    rcases Nat.lt_or_ge i t.n with w | w
    · rw [opn_P w] at q
      exact opn_p (c := 7) (p := fun z => z ≤ 5) (by omega) (fun e => by omega) (fun _ => ok.G i w q) hi
    · obtain rfl : i = t.n := by omega
      rw [opn_Pn, h5] at q; omega
  · intro i (hi : i < t.n + 1); exact opn_p (c := 8) (p := fun z => z ≤ 1) (by omega) (fun _ => h8) (fun w => ok.W i w) hi
  · intro i (hi : i < t.n + 1)
    show (if i = 0 then t.n else t.o (i - 1)) < t.n + 1
    by_cases q : i = 0
    · rw [if_pos q]; omega
    · rw [if_neg q]
      have := ok.o (i - 1) (by omega)
      omega
  · intro i j (hi : i < t.n + 1) (hj : j < t.n + 1) e
    have e : (if i = 0 then t.n else t.o (i - 1)) = (if j = 0 then t.n else t.o (j - 1)) := e
    by_cases q : i = 0
    · by_cases q2 : j = 0
      · omega
      · rw [if_pos q, if_neg q2] at e
        have := ok.o (j - 1) (by omega)
        omega
    · by_cases q2 : j = 0
      · rw [if_neg q, if_pos q2] at e
        have := ok.o (i - 1) (by omega)
        omega
      · rw [if_neg q, if_neg q2] at e
        have := ok.oi (i - 1) (j - 1) (by omega) (by omega) e
        omega
theorem tC_opn (hC : tC t r) (h7 : t.n < 7) (h5 : v 5 = 4) (hn : r' 11 7 = nI (t.n + 1)) (hb : r' 11 8 = r 11 8) (hx : ∀ c, c ≤ 8 → r' (13 + t.n) (c + 1) = nI (v c)) (hy : ∀ i c, i < 7 → (i ≠ t.n ∨ c = 0) → r' (13 + i) c = r (13 + i) c) (h32 : r' 32 1 = nI (t.n + 1)) (ho : ∀ i, i < t.n + 1 → r' 33 i = nI (if i = 0 then t.n else t.o (i - 1))) (h20 : r' 20 1 = r 20 1) : tC (t.opn v) r' := by
  refine ⟨hn, ?_, ?_, ?_, ?_, ?_, ?_, ?_, ?_, ?_, ?_, h32, ho, ?_, ?_⟩
  · intro i hi; rw [hy i 0 hi (Or.inr rfl)]; exact hC.N i hi
  · intro i (hi : i < t.n + 1); exact opn_v (c := 0) (by omega) (fun w => by rw [w]; exact hx 0 (by omega)) (fun w => by rw [hy i _ (by omega) (by omega)]; exact hC.K i w) hi
  · intro i (hi : i < t.n + 1); exact opn_v (c := 1) (by omega) (fun w => by rw [w]; exact hx 1 (by omega)) (fun w => by rw [hy i _ (by omega) (by omega)]; exact hC.M i w) hi
  · intro i (hi : i < t.n + 1); exact opn_v (c := 2) (by omega) (fun w => by rw [w]; exact hx 2 (by omega)) (fun w => by rw [hy i _ (by omega) (by omega)]; exact hC.C i w) hi
  · intro i (hi : i < t.n + 1); exact opn_v (c := 3) (by omega) (fun w => by rw [w]; exact hx 3 (by omega)) (fun w => by rw [hy i _ (by omega) (by omega)]; exact hC.T i w) hi
  · intro i (hi : i < t.n + 1); exact opn_v (c := 4) (by omega) (fun w => by rw [w]; exact hx 4 (by omega)) (fun w => by rw [hy i _ (by omega) (by omega)]; exact hC.A i w) hi
  · intro i (hi : i < t.n + 1); exact opn_v (c := 5) (by omega) (fun w => by rw [w]; exact hx 5 (by omega)) (fun w => by rw [hy i _ (by omega) (by omega)]; exact hC.P i w) hi
  · intro i (hi : i < t.n + 1) q
    rcases Nat.lt_or_ge i t.n with w | w
    · rw [opn_P w] at q
      exact opn_v (c := 6) (by omega) (fun e => by omega) (fun _ => by rw [hy i _ (by omega) (by omega)]; exact hC.F i w q) hi
    · obtain rfl : i = t.n := by omega
      rw [opn_Pn, h5] at q; omega
  · intro i (hi : i < t.n + 1) q
    rcases Nat.lt_or_ge i t.n with w | w
    · rw [opn_P w] at q
      exact opn_v (c := 7) (by omega) (fun e => by omega) (fun _ => by rw [hy i _ (by omega) (by omega)]; exact hC.G i w q) hi
    · obtain rfl : i = t.n := by omega
      rw [opn_Pn, h5] at q; omega
  · intro i (hi : i < t.n + 1); exact opn_v (c := 8) (by omega) (fun w => by rw [w]; exact hx 8 (by omega)) (fun w => by rw [hy i _ (by omega) (by omega)]; exact hC.W i w) hi
  · rw [hb]; exact hC.b
  · rw [h20]; exact hC.sp
theorem tM_opn (hM : tM t r) (h7 : t.n < 7) (h5 : v 5 = 4) (hn : r' 102 0 = nI (t.n + 1)) (hb : r' 102 2 = r 102 2) (hx : ∀ c, c ≤ 8 → r' 102 (10 + 10 * t.n + c) = nI (v c)) (hy : ∀ i c, i < t.n → c ≤ 8 → r' 102 (10 + 10 * i + c) = r 102 (10 + 10 * i + c)) (ho : ∀ i, i < t.n + 1 → r' 102 (80 + i) = nI (if i = 0 then t.n else t.o (i - 1))) : tM (t.opn v) r' := by
  refine ⟨hn, ?_, ?_, ?_, ?_, ?_, ?_, ?_, ?_, ?_, ho, ?_⟩
  · intro i (hi : i < t.n + 1); exact opn_v (c := 0) (by omega) (fun w => by rw [w]; exact hx 0 (by omega)) (fun w => (hy i 0 w (by omega)).trans (hM.K i w)) hi
  · intro i (hi : i < t.n + 1); exact opn_v (c := 1) (by omega) (fun w => by rw [w]; exact hx 1 (by omega)) (fun w => (hy i 1 w (by omega)).trans (hM.M i w)) hi
  · intro i (hi : i < t.n + 1); exact opn_v (c := 2) (by omega) (fun w => by rw [w]; exact hx 2 (by omega)) (fun w => (hy i 2 w (by omega)).trans (hM.C i w)) hi
  · intro i (hi : i < t.n + 1); exact opn_v (c := 3) (by omega) (fun w => by rw [w]; exact hx 3 (by omega)) (fun w => (hy i 3 w (by omega)).trans (hM.T i w)) hi
  · intro i (hi : i < t.n + 1); exact opn_v (c := 4) (by omega) (fun w => by rw [w]; exact hx 4 (by omega)) (fun w => (hy i 4 w (by omega)).trans (hM.A i w)) hi
  · intro i (hi : i < t.n + 1); exact opn_v (c := 5) (by omega) (fun w => by rw [w]; exact hx 5 (by omega)) (fun w => (hy i 5 w (by omega)).trans (hM.P i w)) hi
  · intro i (hi : i < t.n + 1) q
    rcases Nat.lt_or_ge i t.n with w | w
    · rw [opn_P w] at q
      exact opn_v (c := 6) (by omega) (fun e => by omega) (fun _ => (hy i 6 w (by omega)).trans (hM.F i w q)) hi
    · obtain rfl : i = t.n := by omega
      rw [opn_Pn, h5] at q; omega
  · intro i (hi : i < t.n + 1) q
    rcases Nat.lt_or_ge i t.n with w | w
    · rw [opn_P w] at q
      exact opn_v (c := 7) (by omega) (fun e => by omega) (fun _ => (hy i 7 w (by omega)).trans (hM.G i w q)) hi
    · obtain rfl : i = t.n := by omega
      rw [opn_Pn, h5] at q; omega
  · intro i (hi : i < t.n + 1); exact opn_v (c := 8) (by omega) (fun w => by rw [w]; exact hx 8 (by omega)) (fun w => (hy i 8 w (by omega)).trans (hM.W i w)) hi
  · rw [hb]; exact hM.b
theorem beg_at {a k c T A : Nat} (hk : k < 70) : ∀ f, f ≤ 8 → g_X5_begin r a (nI k) (nI c) (nI T) (nI A) a (f + 1) = nI (vlS (k / 10) (k % 10) c T A f) := by
  intro f hf
  obtain ⟨k1, k2⟩ := km_t k hk
  unfold g_X5_begin g_X5_carry
  rw [k2, k1]
  rcases (by omega : f = 0 ∨ f = 1 ∨ f = 2 ∨ f = 3 ∨ f = 4 ∨ f = 5 ∨ f = 6 ∨ f = 7 ∨ f = 8) with rfl | rfl | rfl | rfl | rfl | rfl | rfl | rfl | rfl
  · rw [uI_o (by omega), uI_o (by omega), uI_o (by omega), uI_o (by omega), uI_o (by omega), uI_o (by omega), uI_o (by omega), uI_o (by omega), uI_e]; rfl
  · rw [uI_o (by omega), uI_o (by omega), uI_o (by omega), uI_o (by omega), uI_o (by omega), uI_o (by omega), uI_o (by omega), uI_e]; rfl
  · rw [uI_o (by omega), uI_o (by omega), uI_o (by omega), uI_o (by omega), uI_o (by omega), uI_o (by omega), uI_e]; rfl
  · rw [uI_o (by omega), uI_o (by omega), uI_o (by omega), uI_o (by omega), uI_o (by omega), uI_e]; rfl
  · rw [uI_o (by omega), uI_o (by omega), uI_o (by omega), uI_o (by omega), uI_e]; rfl
  · rw [uI_o (by omega), uI_o (by omega), uI_e]; rfl
  · rw [uI_o (by omega), uI_e]; rfl
  · rw [uI_e]; rfl
  · rw [uI_o (by omega), uI_o (by omega), uI_o (by omega), uI_e]; rfl
theorem beg_o {a b j : Nat} {x y z w : Int32} (h : b ≠ a ∨ j = 0) : g_X5_begin r a x y z w b j = r b j := by
  unfold g_X5_begin g_X5_carry
  rw [uI_o (by omega), uI_o (by omega), uI_o (by omega), uI_o (by omega), uI_o (by omega), uI_o (by omega), uI_o (by omega), uI_o (by omega), uI_o (by omega)]
theorem allN : ∀ n, n < 8 → ((1 : Int32) <<< (nI n &&& 31)) - 1 = nI (2 ^ n - 1) := by decide +kernel
end OPN
