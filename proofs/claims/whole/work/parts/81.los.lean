/-! LOOSE EVENINGS -/
def zN (z : Int32) : Int32 := z * 1103515245 + 12345
def vZ (z : Int32) : Nat := (zN z).toBitVec.toNat >>> 8
def swO (o : Nat → Nat) (p : Nat) : Nat → Nat := fun k => if k = p then o (p + 1) else if k = p + 1 then o p else o k
def lz1 (n : Nat) (o : Nat → Nat) (z : Int32) : (Nat → Nat) × Int32 := if n < 2 then (o, z) else (swO o (vZ z % (n - 1)), zN z)
def lzS (t : Th) (X : Tx) : Nat → (Nat → Nat) → Int32 → Int32 → Int32 → (Nat → Nat) × Int32 × Int32 × Int32
  | 0, o, z, T, F => (o, z, T, F)
  | k + 1, o, z, T, F => lzS t X k (lz1 t.n o z).1 (lz1 t.n o z).2 (f_X9_held (T + clT (t.ord (lz1 t.n o z).1) X) (-99999) 99999) (F + 1)
section LOS
variable {d : Nat} {E : pEv} {r r' r1 r2 : Nat → Nat → Int32} {t t' : Th} {X : Tx} {Q : Option Value → pH → Prop} {v : Nat → Nat} {o o' : Nat → Nat}
theorem nI_ad (a b : Nat) : nI (a + b) = nI a + nI b := Int32.toBitVec_inj.mp (show BitVec.ofNat 32 (a + b) = BitVec.ofNat 32 a + BitVec.ofNat 32 b from BitVec.ofNat_add a b)
theorem nI_ml (a b : Nat) : nI (a * b) = nI a * nI b := Int32.toBitVec_inj.mp (show BitVec.ofNat 32 (a * b) = BitVec.ofNat 32 a * BitVec.ofNat 32 b from BitVec.ofNat_mul a b)
theorem nI_dv {a m : Nat} (ha : a < 2 ^ 31) (hm : m < 2 ^ 31) : nI a / nI m = nI (a / m) := by
  apply Int32.toInt_inj.mp
  rw [Int32.toInt_div, nI_toInt ha, nI_toInt hm]
  have hd : a / m < 2 ^ 31 := Nat.lt_of_le_of_lt (Nat.div_le_self _ _) ha
  rw [nI_toInt hd]
  have e : (Int.ofNat a).tdiv (Int.ofNat m) = Int.ofNat (a / m) := rfl
  have e' : ((a : Int)).tdiv (m : Int) = ((a / m : Nat) : Int) := e
  rw [e']
  generalize a / m = q at hd
  exact Int.bmod_eq_of_le_mul_two (x := ((q : Nat) : Int)) (y := 2 ^ 32) (by omega) (by omega)
theorem nI_rm {a m : Nat} (ha : a < 2 ^ 31) (hm : m < 2 ^ 31) : nI a - nI a / nI m * nI m = nI (a % m) := by
  rw [nI_dv ha hm, ← nI_ml]
  have e : nI a = nI (a / m * m) + nI (a % m) := by
    rw [← nI_ad]
    congr 1
    rw [Nat.mul_comm]
    exact (Nat.div_add_mod a m).symm
  rw [e, Int32.add_comm, Int32.add_sub_cancel]
theorem vZ_lt {z : Int32} : vZ z < 2 ^ 24 := by
  unfold vZ
  rw [Nat.shiftRight_eq_div_pow]
  have := (zN z).toBitVec.isLt
  omega
theorem vZ_e {z : Int32} : ((zN z).toUInt32 >>> ((8 : Int32).toUInt32 &&& Int32.toUInt32 31)).toInt32 = nI (vZ z) := by
  apply Int32.toBitVec_inj.mp
  show ((zN z).toUInt32 >>> ((8 : Int32).toUInt32 &&& Int32.toUInt32 31)).toBitVec = BitVec.ofNat 32 (vZ z)
  rw [UInt32.toBitVec_shiftRight, BitVec.ushiftRight_eq']
  have e : (((8 : Int32).toUInt32 &&& Int32.toUInt32 31).toBitVec % 32).toNat = 8 := by decide
  rw [e]
  apply BitVec.eq_of_toNat_eq
  rw [BitVec.toNat_ushiftRight, BitVec.toNat_ofNat]
  have := @vZ_lt z
  show vZ z = vZ z % 2 ^ 32
  rw [Nat.mod_eq_of_lt (by omega)]
theorem ord_ord : (t.ord o).ord o' = t.ord o' := by
  funext x y
  unfold Th.ord
  by_cases q : x = 9
  · rw [if_pos q, if_pos q]
  · rw [if_neg q, if_neg q, if_neg q]
theorem ord_self : t.ord t.o = t := by
  funext x y
  unfold Th.ord
  by_cases q : x = 9
  · rw [if_pos q, q]; rfl
  · rw [if_neg q]
theorem swO_x {p : Nat} (k : Nat) : swO o p k = o (if k = p then p + 1 else if k = p + 1 then p else k) := by
  unfold swO
  by_cases q : k = p
  · rw [if_pos q, if_pos q]
  · rw [if_neg q, if_neg q]
    by_cases q2 : k = p + 1
    · rw [if_pos q2, if_pos q2]
    · rw [if_neg q2, if_neg q2]
theorem sw_lt {p n k : Nat} (hp : p + 1 < n) (hk : k < n) : (if k = p then p + 1 else if k = p + 1 then p else k) < n := by
  by_cases q : k = p
  · rw [if_pos q]; exact hp
  · rw [if_neg q]
    by_cases q2 : k = p + 1
    · rw [if_pos q2]; omega
    · rw [if_neg q2]; exact hk
theorem sw_in {p k j : Nat} (e : (if k = p then p + 1 else if k = p + 1 then p else k) = (if j = p then p + 1 else if j = p + 1 then p else j)) : k = j := by
  by_cases q : k = p
  · rw [if_pos q] at e
    by_cases q2 : j = p
    · omega
    · rw [if_neg q2] at e
      by_cases q3 : j = p + 1
      · rw [if_pos q3] at e; omega
      · rw [if_neg q3] at e; omega
  · rw [if_neg q] at e
    by_cases q2 : j = p
    · rw [if_pos q2] at e
      by_cases q3 : k = p + 1
      · rw [if_pos q3] at e; omega
      · rw [if_neg q3] at e; omega
    · rw [if_neg q2] at e
      by_cases q3 : k = p + 1
      · rw [if_pos q3] at e
        by_cases q4 : j = p + 1
        · omega
        · rw [if_neg q4] at e; omega
      · rw [if_neg q3] at e
        by_cases q4 : j = p + 1
        · rw [if_pos q4] at e; omega
        · rw [if_neg q4] at e; exact e
theorem lz_ok {z : Int32} (ok : tOK (t.ord o)) : tOK (t.ord (lz1 t.n o z).1) := by
  unfold lz1
  by_cases h : t.n < 2
  · rw [if_pos h]; exact ok
  · rw [if_neg h]
    have hp : vZ z % (t.n - 1) + 1 < t.n := by
      have := Nat.mod_lt (vZ z) (show 0 < t.n - 1 by omega)
      omega
    have := tOK_ord (o' := swO o (vZ z % (t.n - 1))) ok (fun i hi => by
      rw [swO_x]
      exact ok.o _ (sw_lt hp hi)) (fun i j hi hj e => by
      rw [swO_x, swO_x] at e
      exact sw_in (ok.oi _ _ (sw_lt hp hi) (sw_lt hp hj) e))
    rwa [ord_ord] at this
theorem n2_t : ∀ n, n ≤ 7 → (nI n - 1 < 1 ↔ n < 2) ∧ (1 < nI n ↔ ¬ n < 2) ∧ (nI n - 1 = 0 ↔ n = 1) ∧ (¬ n < 2 → nI n - 1 = nI (n - 1)) := by decide +kernel
def PLc : Nat → Nat → Prop := fun a k => (a = 11 ∧ 9 ≤ k ∧ k ≤ 11) ∨ a = 33 ∨ SC a k
def PLm : Nat → Nat → Prop := fun a k => (a = 102 ∧ (k = 1 ∨ k = 3 ∨ k = 4 ∨ (80 ≤ k ∧ k ≤ 86))) ∨ SM a k
def LC (t : Th) (X : Tx) (r : Nat → Nat → Int32) (o : Nat → Nat) (z T F : Int32) (rr : Nat → Nat → Int32) : Prop := tC (t.ord o) rr ∧ xC X rr ∧ rr 11 11 = z ∧ rr 11 9 = T ∧ rr 11 10 = F ∧ sE PLc r rr
def LM (t : Th) (X : Tx) (r : Nat → Nat → Int32) (o : Nat → Nat) (z T F : Int32) (rr : Nat → Nat → Int32) : Prop := tM (t.ord o) rr ∧ xM X rr ∧ rr 102 1 = z ∧ rr 102 3 = T ∧ rr 102 4 = F ∧ sE PLm r rr
theorem lc_loosen (s_E : oE E) {rr : Nat → Nat → Int32} {z T F : Int32} (ok : tOK (t.ord o)) (h : LC t X r o z T F rr) : ∃ rs, LC t X r (lz1 t.n o z).1 (lz1 t.n o z).2 T F rs ∧ ∀ Q, wX (d + 10) 43 [.ref 11] (mkH E rr) Q = Q none (mkH E rs) := by
  obtain ⟨hC, hX, hz, hT, hF, hs⟩ := h
  have hn : t.n ≤ 7 := ok.n
  have h7 : rr 11 7 = nI t.n := hC.n
  obtain ⟨c1, c2, c3, c4⟩ := n2_t t.n hn
  have x0 : ∀ Q, wX (d + 10) 43 [.ref 11] (mkH E rr) Q = Q none (mkH E (g_X2_loosen rr)) := fun Q => x_X2_loosen (d := d + 7) s_E (fun q => by
    rw [h7] at q ⊢
    intro e
    have := c3.mp e
    exact q (c1.mpr (by omega)))
  unfold lz1
  by_cases h2 : t.n < 2
  · rw [if_pos h2]
    refine ⟨rr, ⟨hC, hX, hz, hT, hF, hs⟩, fun Q => ?_⟩
    rw [x0]
    unfold g_X2_loosen
    rw [h7, if_pos (c1.mpr h2)]
  · rw [if_neg h2]
    have hp : vZ z % (t.n - 1) + 1 < t.n := by
      have := Nat.mod_lt (vZ z) (show 0 < t.n - 1 by omega)
      omega
    have hv := @vZ_lt z
    let q : Nat → Nat → Int32 := uI rr 11 11 (zN z)
    have hk : rK q 32 7 t.n := ⟨(uI_o (by omega)).trans hC.o1, hn, by decide⟩
    have hk2 : rK (uI q 33 (vZ z % (t.n - 1)) (q 33 (vZ z % (t.n - 1) + 1))) 32 7 t.n := rK_u hk (by omega)
    have e : g_X2_loosen rr = uI (uI q 33 (vZ z % (t.n - 1)) (q 33 (vZ z % (t.n - 1) + 1))) 33 (vZ z % (t.n - 1) + 1) (q 33 (vZ z % (t.n - 1))) := by
      unfold g_X2_loosen
      rw [h7, if_neg (fun w => h2 (c1.mp w)), uI_e, hz]
      show g_X4_swap q 32 7 _ _ = _
      have ez : z * 1103515245 + 12345 = zN z := rfl
      rw [ez, vZ_e, c4 h2, nI_rm (by omega) (by omega), ← nI_succ]
      unfold g_X4_swap
      rw [at_in hk hp, at_in hk (by omega), change_in hk (by omega), change_in hk2 hp]
    refine ⟨_, ⟨?_, ?_, ?_, ?_, ?_, ?_⟩, fun Q => (x0 Q).trans (by rw [e])⟩
    · have := tC_ord (o' := swO o (vZ z % (t.n - 1))) hC hn (r' := uI (uI q 33 (vZ z % (t.n - 1)) (q 33 (vZ z % (t.n - 1) + 1))) 33 (vZ z % (t.n - 1) + 1) (q 33 (vZ z % (t.n - 1)))) (fun a k w w2 => by
        unfold rTC at w
        rw [uI_o (by omega), uI_o (by omega)]
        exact uI_o (by omega)) (fun i hi => by
        have ho : ∀ j, j < t.n → q 33 j = nI (o j) := fun j hj => (uI_o (by omega)).trans (hC.o j hj)
        unfold swO
        by_cases w1 : i = vZ z % (t.n - 1)
        · rw [if_pos w1, w1, uI_o (by omega), uI_e, ho _ hp]
        · rw [if_neg w1]
          by_cases w2 : i = vZ z % (t.n - 1) + 1
          · rw [if_pos w2, w2, uI_e, ho _ (by omega)]
          · rw [if_neg w2, uI_o (by omega), uI_o (by omega), ho _ hi])
      rwa [ord_ord] at this
    · exact xC_f hX (fun a k w => by
        unfold rXC at w
        rw [uI_o (by omega), uI_o (by omega)]
        exact uI_o (by omega))
    · rw [uI_o (by omega), uI_o (by omega)]; exact uI_e
    · rw [uI_o (by omega), uI_o (by omega)]; exact (uI_o (by omega)).trans hT
    · rw [uI_o (by omega), uI_o (by omega)]; exact (uI_o (by omega)).trans hF
    · exact sE_tr hs (sE_tr (r' := q) (sE_u (Or.inl (by omega))) (sE_tr (sE_u (Or.inr (Or.inl rfl))) (sE_u (Or.inr (Or.inl rfl)))))
theorem lc_step (s_E : oE E) (xo : xOK X) {rr : Nat → Nat → Int32} {z T F : Int32} (ok : tOK (t.ord o)) (h : LC t X r o z T F rr) {x1 x3 v2 : Int32} : ∃ rs, LC t X r (lz1 t.n o z).1 (lz1 t.n o z).2 (f_X9_held (T + clT (t.ord (lz1 t.n o z).1) X) (-99999) 99999) (F + 1) rs ∧ ∀ Q, wX (d + 69) 43 [.ref 11] (mkH E rr) (fun v h' => wG (d + 69) 121 (30, [.ref 10, .int x1, .int v2, .int x3], pv v [], h') Q) = wG (d + 69) 121 (18, [.ref 10, .int x1, .int v2, .int (x3 + 1)], [], mkH E rs) Q := by
  obtain ⟨ra, ⟨hC, hX, hz, hT, hF, hs⟩, e1⟩ := lc_loosen (d := d + 59) (E := E) s_E ok h
  have ok' := lz_ok (z := z) ok
  obtain ⟨rb, s2, e2⟩ := x_clap (d := d + 59) (E := E) s_E ok' hC xo hX
  have e9 : rb 11 9 = T := (s2 _ _ (by unfold SC; omega)).trans hT
  have e10 : rb 11 10 = F := (s2 _ _ (by unfold SC; omega)).trans hF
  have e11 : rb 11 11 = (lz1 t.n o z).2 := (s2 _ _ (by unfold SC; omega)).trans hz
  refine ⟨uI (uI rb 11 9 (f_X9_held (T + clT (t.ord (lz1 t.n o z).1) X) (-99999) 99999)) 11 10 (F + 1), ⟨tC_f (tC_s hC ok'.n s2) ok'.n (fun a k q => ?_), xC_f (xC_s hX s2) (fun a k q => ?_), ?_, ?_, uI_e, sE_tr hs (sE_tr (sE_mo s2 (fun a k q => Or.inr (Or.inr q))) (sE_tr (sE_u (Or.inl (by omega))) (sE_u (Or.inl (by omega)))))⟩, fun Q => ?_⟩
  · unfold rTC at q; rw [uI_o (by omega), uI_o (by omega)]
  · unfold rXC at q; rw [uI_o (by omega), uI_o (by omega)]
  · rw [uI_o (by omega), uI_o (by omega)]; exact e11
  · rw [uI_o (by omega), uI_e]
  · refine (e1 _).trans ?_
    refine (sg_X9_loose_30 (d := d + 69) s_E).trans ?_
    refine (e2 _).trans ?_
    refine (sg_X9_loose_41 (d := d + 69) s_E).trans ?_
    refine (x_X2_giveEvening (d := d + 67) s_E).trans ?_
    refine (sg_X9_loose_44 (d := d + 69) s_E).trans ?_
    unfold g_X2_giveEvening
    rw [e9, uI_o (r := rb) (by omega), e10]
end LOS
