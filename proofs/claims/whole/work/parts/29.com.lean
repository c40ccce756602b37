section CC
variable {d : Nat} {E : pEv} {ro : Nat → Nat → Int32} {Q : Option Value → pH → Prop} {t : Th}
theorem orb {a b i : Nat} (ha : a < 2 ^ i) : a ||| b <<< i = a + b * 2 ^ i := by
  rw [Nat.or_comm, ← Nat.shiftLeft_add_eq_or_of_lt ha, Nat.shiftLeft_eq, Nat.add_comm]
theorem wl_k (ok : tOK t) : ∀ k, k ≤ t.n → it (fun i a => a ||| t.W i <<< i) k 0 0 < 2 ^ k ∧ ∀ i, i < k → bt (it (fun i a => a ||| t.W i <<< i) k 0 0) i = t.W i := by
  refine it_inv (n := t.n) (J := fun k b => b < 2 ^ k ∧ ∀ i, i < k → bt b i = t.W i) (fun k b hk h => ?_) ⟨by decide, fun i hi => absurd hi (Nat.not_lt_zero _)⟩
  have hW := ok.W k hk
  obtain ⟨h1, h2⟩ := h
  rw [orb h1]
  refine ⟨?_, fun i hi => ?_⟩
  · rw [Nat.pow_succ]
    have : t.W k * 2 ^ k ≤ 1 * 2 ^ k := Nat.mul_le_mul_right _ hW
    omega
  · unfold bt
    by_cases he : i = k
    · subst he
      rw [Nat.add_mul_div_right _ _ (Nat.two_pow_pos _), Nat.div_eq_of_lt h1]
      omega
    · have hlt : i < k := by omega
      obtain ⟨j, rfl⟩ : ∃ j, k = i + 1 + j := ⟨k - i - 1, by omega⟩
      have e : t.W (i + 1 + j) * 2 ^ (i + 1 + j) = (t.W (i + 1 + j) * 2 ^ j * 2) * 2 ^ i := by
        have e2 : 2 ^ (i + 1 + j) = 2 ^ j * 2 * 2 ^ i := by
          rw [Nat.pow_add, Nat.pow_succ]
          simp only [Nat.mul_comm, Nat.mul_left_comm, Nat.mul_assoc]
        rw [e2]
        simp only [Nat.mul_assoc]
      rw [e, Nat.add_mul_div_right _ _ (Nat.two_pow_pos _), Nat.add_mul_mod_self_right]
      exact h2 i hlt
theorem wl_lt (ok : tOK t) : wl t < 2 ^ t.n := (wl_k ok t.n (Nat.le_refl _)).1
theorem wl_bt (ok : tOK t) {i : Nat} (h : i < t.n) : bt (wl t) i = t.W i := (wl_k ok t.n (Nat.le_refl _)).2 i h
theorem p128 (ok : tOK t) : 2 ^ t.n ≤ 128 := by
  have : ∀ i, i ≤ 7 → 2 ^ i ≤ 128 := by decide
  exact this _ ok.n
/-- what comes -/
def hp (t : Th) : Nat := oc t (wl t) 7 0
theorem no7 : ∀ i, i < 7 → (nI i = (-1 : Int32) ↔ i = 7) := by decide
theorem x_X2_happening (s_E : oE E) (ok : tOK t) (hC : tC t ro) : wX (d + 4) 26 [.ref 11] (mkH E ro) Q = Q (some (.int (nI (hp t)))) (mkH E ro) := by
  refine (en_X2_happening (d := d + 3) s_E).trans ?_
  refine (x_X2_wills (d := d + 1) s_E ok hC).trans ?_
  refine (sg_X2_happening_5 (d := d + 3) s_E).trans ?_
  refine (x_X2_outcome (ki := 0) s_E ok hC (Nat.lt_of_lt_of_le (wl_lt ok) (p128 ok)) no7 (by decide)).trans ?_
  exact sg_X2_happening_10 (d := d + 3) s_E
theorem x_X10_ones (s_E : oE E) {a : Nat} (ha : a < 128) : wX (d + 1) 159 [.int (nI a)] (mkH E ro) Q = Q (some (.int (nI (bc a)))) (mkH E ro) := by
  refine (le_X10_ones s_E).trans ?_
  refine (loop_it (P := fun i s => wG d 159 (4, [.int (nI a), .int (nI s), .int (nI i)], [], mkH E ro) Q) (R := fun s => Q (some (.int (nI s))) (mkH E ro)) (f := fun i s => s + bt a i) (I := fun _ _ => True) (n := 7)
    (fun i s hi _ => by
      show wG d 159 (4, [.int (nI a), .int (nI s), .int (nI i)], [], mkH E ro) Q = _
      rw [lp_X10_ones_4 s_E, if_pos (show nI i < (7 : Int32) from @nI_lt i 7 hi (by decide)), sh31 (by omega), nI_bt ha hi, nI_add, ← nI_succ])
    (fun _ _ _ _ => trivial)
    (fun s _ => by
      show wG d 159 (4, [.int (nI a), .int (nI s), .int (nI 7)], [], mkH E ro) Q = _
      rw [lp_X10_ones_4 s_E, if_neg (show ¬ nI 7 < (7 : Int32) from @nI_nlt 7 7 (Nat.le_refl _) (by decide))])
    7 0 0 (by omega) trivial).trans ?_
  show Q (some (.int (nI (0 + bt a 0 + bt a 1 + bt a 2 + bt a 3 + bt a 4 + bt a 5 + bt a 6)))) _ = _
  rw [Nat.zero_add]
  rfl
theorem its_at {s w : Nat} (hs : s < 7) (hw : w < 10) : ((10 + (10 * nI s)) + nI w).toNatClampNeg = 10 + 10 * s + w ∧ ¬ ((10 + (10 * nI s)) + nI w) < 0 := by
  have : ∀ s, s < 7 → ∀ w, w < 10 → ((10 + (10 * nI s)) + nI w).toNatClampNeg = 10 + 10 * s + w ∧ ¬ ((10 + (10 * nI s)) + nI w) < 0 := by decide +kernel
  exact this s hs w hw
theorem x_its (s_E : oE E) {s w : Nat} (hs : s < 7) (hw : w < 10) : wX (d + 1) 157 [.ref 101, .int (nI s), .int (nI w)] (mkH E ro) Q = Q (some (.int (ro 102 (10 + 10 * s + w)))) (mkH E ro) := by
  have h := its_at hs hw
  refine (x_X10_its s_E ⟨h.2, by omega⟩).trans ?_
  unfold f_X10_its
  rw [h.1]
end CC
section DD
variable {d : Nat} {E : pEv} {ro : Nat → Nat → Int32} {Q : Option Value → pH → Prop} {t : Th}
/-- does it come -/
def co (t : Th) (a i : Nat) : Nat := if t.C i = 0 then t.W i else cO (t.M i) (t.C i) (bc (t.C i &&& a)) (t.K i)
theorem co_le (ok : tOK t) {a i : Nat} (h : i < t.n) : co t a i ≤ 1 := by
  unfold co
  split
  · exact ok.W i h
  · exact cO_le
theorem mo_t : ∀ b, b ≤ 7 → ∀ m, m < 10 → ∀ k, k ≤ 7 → ∀ ki, ki < 7 → (if nI ki = 1 then (if 0 < nI k then (1 : Int32) else 0) else (if nI ki = 2 then (if (nI k - nI k / 2 * 2) = 1 then 1 else 0) else (if nI ki = 3 then (if nI k < nI b then 1 else 0) else (if nI ki = 4 then (if nI k < (1 + (nI m - nI m / 3 * 3)) then 0 else 1) else (if nI ki = 5 then (if (nI k - nI k / 2 * 2) = (1 - (nI m - nI m / 2 * 2)) then 1 else 0) else (if nI ki = 6 then (if 4 < nI m then 1 else (if nI k < nI b then 1 else 0)) else (if nI k = nI b then 1 else 0))))))) = nI (if ki = 0 then (if k = b then 1 else 0) else
  if ki = 1 then (if k < 1 then 0 else 1) else
  if ki = 2 then k % 2 else
  if ki = 3 then (if k < b then 1 else 0) else
  if ki = 4 then (if k < 1 + m % 3 then 0 else 1) else
  if ki = 5 then (if k % 2 = m % 2 then 0 else 1) else
  if 4 < m then 1 else if k < b then 1 else 0) := by decide +kernel
theorem x_X10_happens (s_E : oE E) (ok : tOK t) (hM : tM t ro) {i a : Nat} (hi : i < t.n) (ha : a < 128) : wX (d + 3) 176 [.ref 101, .int (nI i), .int (nI a)] (mkH E ro) Q = Q (some (.int (nI (co t a i)))) (mkH E ro) := by
  have h7 : i < 7 := by have := ok.n; omega
  have hC := ok.C i hi
  have h2 := p27 h7
  have had : t.C i &&& a < 128 := Nat.lt_of_le_of_lt Nat.and_le_right ha
  refine (en_X10_happens (d := d + 2) s_E).trans ?_
  refine (x_its (w := 2) s_E h7 (by decide)).trans ?_
  rw [hM.C i hi]
  refine (sg_X10_happens_6 (d := d + 2) s_E).trans ?_
  unfold co
  by_cases h0 : t.C i = 0
  · rw [h0, if_pos nI_0, if_pos rfl]
    refine (x_its (w := 8) s_E h7 (by decide)).trans ?_
    rw [hM.W i hi]
    refine (sg_X10_happens_18 (d := d + 2) s_E).trans ?_
    have hW := ok.W i hi
    by_cases h1 : t.W i = 1
    · rw [h1, if_pos (show nI 1 = 1 from rfl)]
      rfl
    · have h3 : t.W i = 0 := by omega
      rw [h3, if_neg (by decide)]
      rfl
  · rw [if_neg (nI_ne0 (by omega) (by omega)), if_neg h0]
    refine (x_X10_ones s_E (show t.C i < 128 from by omega)).trans ?_
    refine (sg_X10_happens_32 (d := d + 2) s_E).trans ?_
    rw [← nI_and]
    refine (x_X10_ones s_E had).trans ?_
    refine (sg_X10_happens_40 (d := d + 2) s_E).trans ?_
    refine (x_its (w := 1) s_E h7 (by decide)).trans ?_
    rw [hM.M i hi]
    refine (sg_X10_happens_48 (d := d + 2) s_E).trans ?_
    refine (x_its (w := 0) s_E h7 (by decide)).trans ?_
    rw [show 10 + 10 * i + 0 = 10 + 10 * i from rfl, hM.K i hi]
    refine (sg_X10_happens_56 (d := d + 2) s_E).trans ?_
    simp only [q_i]
    rw [mo_t _ (bc_le _) _ (ok.M i hi) _ (bc_le _) _ (ok.K i hi)]
    rfl
theorem x_X10_allComing (s_E : oE E) (ok : tOK t) (hM : tM t ro) : wX (d + 4) 177 [.ref 101] (mkH E ro) Q = Q (some (.int (nI (it (fun i a => a ||| co t a i <<< i) t.n 0 0)))) (mkH E ro) := by
  have hn := ok.n
  refine (en_X10_allComing (d := d + 3) s_E).trans ?_
  exact loop_it (P := fun i a => wG (d + 3) 177 (4, [.ref 101, .int (nI a), .int (nI i)], [], mkH E ro) Q) (R := fun a => Q (some (.int (nI a))) (mkH E ro)) (I := fun i a => a < 2 ^ i) (n := t.n)
    (fun i a hi ha => by
      have h2 := p27 (show i < 7 from by omega)
      show wG (d + 3) 177 (4, [.ref 101, .int (nI a), .int (nI i)], [], mkH E ro) Q = _
      rw [sg_X10_allComing_4 s_E, hM.n, if_pos (nI_lt hi (by omega))]
      refine (x_X10_happens s_E ok hM hi (by omega)).trans ?_
      refine (sg_X10_allComing_21 (d := d + 3) s_E).trans ?_
      rw [← nI_succ, sh31 (by omega), show (1 : Int32) = nI 1 from rfl, nI_shl (by omega), ← nI_or, show (0 : Int32) = nI 0 from rfl, ← nI_or]
      have hle := co_le (a := a) ok hi
      by_cases h : co t a i = 0
      · rw [h, if_pos rfl, Nat.zero_shiftLeft]
      · have h1 : co t a i = 1 := by omega
        rw [h1, if_neg (by decide)])
    (fun i a hi ha => by
      have hle := co_le (a := a) ok hi
      rw [orb ha, Nat.pow_succ]
      have : co t a i * 2 ^ i ≤ 1 * 2 ^ i := Nat.mul_le_mul_right _ hle
      show a + co t a i * 2 ^ i < _
      omega)
    (fun a _ => by
      show wG (d + 3) 177 (4, [.ref 101, .int (nI a), .int (nI t.n)], [], mkH E ro) Q = _
      rw [sg_X10_allComing_4 s_E, hM.n, if_neg (nI_nlt (Nat.le_refl _) (by omega))])
    t.n 0 0 (by omega) (by decide)
theorem it_congr {α : Type} {f g : Nat → α → α} {n : Nat} (h : ∀ i a, i < n → f i a = g i a) : ∀ k i a, i + k = n → it f k i a = it g k i a := by
  intro k
  induction k with
  | zero => intro i a _; rfl
  | succ k ih =>
    intro i a hk
    show it f k (i + 1) (f i a) = it g k (i + 1) (g i a)
    rw [h i a (by omega)]
    exact ih _ _ (by omega)
theorem hp_co (ok : tOK t) : hp t = it (fun i a => a ||| co t a i <<< i) t.n 0 0 := by
  refine it_congr (n := t.n) (fun i a hi => ?_) t.n 0 0 (by omega)
  have hn := ok.n
  unfold ocf co
  rw [wl_bt ok hi, if_neg (show ¬ i = 7 from by omega)]
theorem x_all (s_E : oE E) (ok : tOK t) (hM : tM t ro) : wX (d + 4) 177 [.ref 101] (mkH E ro) Q = Q (some (.int (nI (hp t)))) (mkH E ro) := by
  rw [hp_co ok]
  exact x_X10_allComing s_E ok hM
end DD
