section FED
variable {d : Nat} {E : pEv} {r r' r1 r2 : Nat → Nat → Int32} {t t' : Th} {X : Tx} {Q : Option Value → pH → Prop} {v : Nat → Nat}
/-- a byte of a word -/
def bW (w : Int64) (k : Nat) : Nat := (w.toBitVec.toNat >>> (8 * k)) % 256
theorem bW_lt {w : Int64} {k : Nat} : bW w k < 256 := Nat.mod_lt _ (by decide)
theorem sU : ∀ k, k < 8 → (((8 * nI k).toInt64.toUInt64 &&& Int64.toUInt64 63).toBitVec % 64).toNat = 8 * k ∧ (((8 * nI k).toInt64 &&& 63).toBitVec.smod 64).toNat = 8 * k := by decide +kernel
theorem by_C (w : Int64) {k : Nat} (hk : k < 8) : ((((w.toUInt64 >>> ((8 * nI k).toInt64.toUInt64 &&& Int64.toUInt64 63)).toInt64) &&& 255).toInt32) = nI (bW w k) := by
  obtain ⟨h1, h2⟩ := sU k hk
  have e1 : (w.toUInt64 >>> ((8 * nI k).toInt64.toUInt64 &&& Int64.toUInt64 63)).toBitVec = w.toBitVec >>> (8 * k) := by
    rw [UInt64.toBitVec_shiftRight, BitVec.ushiftRight_eq', h1]
    rfl
  apply Int32.toBitVec_inj.mp
  show (((w.toUInt64 >>> ((8 * nI k).toInt64.toUInt64 &&& Int64.toUInt64 63)).toBitVec &&& 255#64).signExtend 32) = BitVec.ofNat 32 (bW w k)
  rw [e1, BitVec.signExtend_eq_setWidth_of_le _ (by decide)]
  apply BitVec.eq_of_toNat_eq
  rw [BitVec.toNat_setWidth, BitVec.toNat_and, BitVec.toNat_ushiftRight, BitVec.toNat_ofNat]
  have e2 : 255 % 2 ^ 64 = 2 ^ 8 - 1 := by decide
  rw [e2, Nat.and_two_pow_sub_one_eq_mod]
  rfl
theorem by_M (w : Int64) {k : Nat} (hk : k < 8) : (((w >>> ((8 * nI k).toInt64 &&& 63)) &&& 255).toInt32) = nI (bW w k) := by
  obtain ⟨h1, h2⟩ := sU k hk
  rw [← by_C w hk]
  congr 1
  apply Int64.toBitVec_inj.mp
  have e1 : (w.toUInt64 >>> ((8 * nI k).toInt64.toUInt64 &&& Int64.toUInt64 63)).toBitVec = w.toBitVec >>> (8 * k) := by
    rw [UInt64.toBitVec_shiftRight, BitVec.ushiftRight_eq', h1]
    rfl
  have e2 : (w >>> ((8 * nI k).toInt64 &&& 63)).toBitVec = w.toBitVec.sshiftRight (8 * k) := by
    rw [Int64.toBitVec_shiftRight]
    show w.toBitVec.sshiftRight (_ : BitVec 64).toNat = _
    rw [h2]
  show (w >>> ((8 * nI k).toInt64 &&& 63)).toBitVec &&& 255#64 = (w.toUInt64 >>> ((8 * nI k).toInt64.toUInt64 &&& Int64.toUInt64 63)).toBitVec &&& 255#64
  rw [e1, e2]
  apply BitVec.eq_of_getLsbD_eq
  intro i hi
  rw [BitVec.getLsbD_and, BitVec.getLsbD_and]
  by_cases q : i < 8
  · rw [BitVec.getLsbD_sshiftRight, BitVec.getLsbD_ushiftRight, if_pos (by omega)]
    have : decide (64 ≤ i) = false := decide_eq_false (by omega)
    rw [this]
    rfl
  · have z : (255#64).getLsbD i = false := by
      have : ∀ i, i < 64 → ¬ i < 8 → (255#64).getLsbD i = false := by decide +kernel
      exact this i hi q
    rw [z, Bool.and_false, Bool.and_false]
theorem fd_t : ∀ n, n ≤ 50 → ∀ m, m ≤ 8 → (50 < nI n + nI m ↔ 50 < n + m) := by decide +kernel
theorem fd_a : ∀ n, n < 50 → (212 + nI n).toNatClampNeg = 212 + n ∧ ¬ (212 + nI n) < 0 := by decide +kernel
/-- the tape with m bytes of a word more -/
def tpB (b : Nat → Nat) (n : Nat) (w : Int64) : Nat → Nat := fun k => if k < n then b k else bW w (k - n)
theorem st_feed (s_E : oE E) (hI : Inv r) {w : Int64} {x : Int32} : stI E d r 110 [.ref 10, .long w, .int x] 171 [.ref 101, .long w, .int x] := by
  obtain ⟨t, X, ok, xo, hC, hX, hM, hXM, ⟨y1, y2, y3⟩, ⟨n, b, y4⟩, wn, y5⟩ := hI.1
  obtain ⟨z1, z2, z3, z4, z5, z6⟩ := id y4
  have pC : ∀ Q, wX (d + 70) 110 [.ref 10, .long w, .int x] (mkH E r) Q = wG (d + 69) 110 (7, [.ref 10, .long w, .retAddr 0, .int x, .retAddr 0], [.int (f_X9_within x 1 8)], mkH E r) Q := fun Q => (en_X9_feed (d := d + 69) s_E).trans (x_X9_within (d := d + 68) s_E)
  have gM : f_X10_in x.toInt64 1 8 = f_X9_within x 1 8 := in_l (a := 1) (b := 8)
  have pM : ∀ ra Q, wX (d + 70) 171 [.ref 101, .long w, .int x] (mkH E ra) Q = wG (d + 69) 171 (9, [.ref 101, .long w, .retAddr 0, .int x, .retAddr 0], [.int (f_X9_within x 1 8)], mkH E ra) Q := fun ra Q => by
    refine (en_X10_feed (d := d + 69) s_E).trans ?_
    refine (x_X10_in (d := d + 68) s_E).trans ?_
    rw [gM]
    rfl
  rcases wi_v (x := x) (a := 1) (m := 8) (by decide) (by decide) with h | ⟨m, hm1, hm, rfl, h⟩
  · have h : f_X9_within x 1 8 = 0 := h
    refine st_e hI (k := 1) (by decide) (fun Q => ?_) (fun Q => ?_)
    · rw [pC, h]
      refine (sg_X9_feed_7 (d := d + 69) s_E).trans ?_
      rw [if_pos rfl, er1]
      refine (x_wr (d := d + 67) s_E (by decide)).trans ?_
      exact sg_X9_feed_16 (d := d + 69) s_E
    · rw [pM, h]
      refine (sg_X10_feed_9 (d := d + 69) s_E).trans ?_
      rw [if_pos rfl]
      refine (x_fin (d := d + 68) (k := 1) s_E (by decide)).trans ?_
      exact sg_X10_feed_17 (d := d + 69) s_E
  · have h : f_X9_within (nI m) 1 8 = 1 := h
    have qC : ∀ Q, wX (d + 70) 110 [.ref 10, .long w, .int (nI m)] (mkH E r) Q = if 50 < n + m then Q (some (.int (er 4))) (mkH E (eC r 4)) else wG (d + 69) 110 (44, [.ref 10, .long w, .retAddr 0, .int (nI m), .int 0], [], mkH E r) Q := fun Q => by
      rw [pC, h]
      refine (sg_X9_feed_7 (d := d + 69) s_E).trans ?_
      rw [if_neg (by decide), z3]
      by_cases q : 50 < n + m
      · rw [if_pos ((fd_t n z1 m hm).mpr q), if_pos q, er4]
        refine (x_wr (d := d + 67) s_E (by decide)).trans ?_
        exact sg_X9_feed_40 (d := d + 69) s_E
      · rw [if_neg (fun z => q ((fd_t n z1 m hm).mp z)), if_neg q]
    have qM : ∀ ra, ra 102 5 = nI n → ∀ Q, wX (d + 70) 171 [.ref 101, .long w, .int (nI m)] (mkH E ra) Q = if 50 < n + m then Q (some (.int (er 4))) (mkH E (eM ra 4)) else wG (d + 69) 171 (40, [.ref 101, .long w, .retAddr 0, .int (nI m), .int 0], [], mkH E ra) Q := fun ra hra Q => by
      rw [pM, h]
      refine (sg_X10_feed_9 (d := d + 69) s_E).trans ?_
      rw [if_neg (by decide), hra]
      by_cases q : 50 < n + m
      · rw [if_pos ((fd_t n z1 m hm).mpr q), if_pos q]
        refine (x_fin (d := d + 68) (k := 4) s_E (by decide)).trans ?_
        exact sg_X10_feed_36 (d := d + 69) s_E
      · rw [if_neg (fun z => q ((fd_t n z1 m hm).mp z)), if_neg q]
    by_cases hf : 50 < n + m
    · refine st_e hI (k := 4) (by decide) (fun Q => ?_) (fun Q => ?_)
      · rw [qC, if_pos hf]
      · rw [qM (eC r 4) ((uI_o (by omega)).trans z4), if_pos hf]
    · have lpC : ∀ j i rr, i + j = m → rr 34 1 = nI (n + i) → sE (fun a k => (a = 34 ∧ k = 1) ∨ (a = 35 ∧ n ≤ k)) r rr → (∀ k, k < i → rr 35 (n + k) = nI (bW w k)) → ∃ rs, rs 34 1 = nI (n + m) ∧ sE (fun a k => (a = 34 ∧ k = 1) ∨ (a = 35 ∧ n ≤ k)) r rs ∧ (∀ k, k < m → rs 35 (n + k) = nI (bW w k)) ∧ ∀ Q, wG (d + 69) 110 (44, [.ref 10, .long w, .retAddr 0, .int (nI m), .int (nI i)], [], mkH E rr) Q = Q (some (.int (nI (n + m)))) (mkH E rs) := by
        intro j
        induction j with
        | zero =>
          intro i rr hi h1 h2 h3
          obtain rfl : i = m := by omega
          refine ⟨rr, h1, h2, h3, fun Q => ?_⟩
          refine (sg_X9_feed_44 (d := d + 69) s_E).trans ?_
          rw [if_neg (nI_nlt (Nat.le_refl _) (by omega)), h1]
        | succ j ih =>
          intro i rr hi h1 h2 h3
          have hk : rK rr 34 50 (n + i) := ⟨h1, by omega, by decide⟩
          obtain ⟨rs, g1, g2, g3, g4⟩ := ih (i + 1) (uI (uI rr 35 (n + i) (nI (bW w i))) 34 1 (nI (n + i + 1))) (by omega) (by rw [uI_e]; rfl) (sE_tr h2 (sE_tr (sE_u (Or.inr ⟨rfl, by omega⟩)) (sE_u (Or.inl ⟨rfl, rfl⟩)))) (fun k hk2 => by
            rw [uI_o (by omega)]
            by_cases q : k = i
            · rw [q, uI_e]
            · rw [uI_o (by omega)]; exact h3 k (by omega))
          refine ⟨rs, g1, g2, g3, fun Q => ?_⟩
          refine (sg_X9_feed_44 (d := d + 69) s_E).trans ?_
          rw [if_pos (nI_lt (by omega) (by omega)), by_C w (by omega)]
          refine (x_X4_add (d := d + 68) (c_h0 := 50) s_E (oR rfl)).trans ?_
          rw [add_in hk (by omega)]
          refine (sg_X9_feed_72 (d := d + 69) s_E).trans ?_
          rw [← nI_succ]
          exact g4 Q
      obtain ⟨rs, c1, c2, c3, c4⟩ := lpC m 0 r (by omega) z3 sE_rf (fun k hk => absurd hk (by omega))
      have rs102 : ∀ k, rs 102 k = r 102 k := fun k => c2 102 k (by omega)
      have lpM : ∀ j i rr, i + j = m → rr 102 5 = nI (n + i) → sE (fun a k => a = 102 ∧ (k = 5 ∨ (212 + n ≤ k ∧ k < 262))) rs rr → (∀ k, k < i → rr 102 (212 + n + k) = nI (bW w k)) → ∃ rt, rt 102 5 = nI (n + m) ∧ sE (fun a k => a = 102 ∧ (k = 5 ∨ (212 + n ≤ k ∧ k < 262))) rs rt ∧ (∀ k, k < m → rt 102 (212 + n + k) = nI (bW w k)) ∧ ∀ Q, wG (d + 69) 171 (40, [.ref 101, .long w, .retAddr 0, .int (nI m), .int (nI i)], [], mkH E rr) Q = Q (some (.int (nI (n + m)))) (mkH E rt) := by
        intro j
        induction j with
        | zero =>
          intro i rr hi h1 h2 h3
          obtain rfl : i = m := by omega
          refine ⟨rr, h1, h2, h3, fun Q => ?_⟩
          refine (sg_X10_feed_40 (d := d + 69) s_E (fun q => absurd q (nI_nlt (Nat.le_refl _) (by omega)))).trans ?_
          rw [if_neg (nI_nlt (Nat.le_refl _) (by omega)), h1]
        | succ j ih =>
          intro i rr hi h1 h2 h3
          obtain ⟨a1, a2⟩ := fd_a (n + i) (by omega)
          obtain ⟨rt, g1, g2, g3, g4⟩ := ih (i + 1) (uI (uI rr 102 (212 + (n + i)) (nI (bW w i))) 102 5 (nI (n + i + 1))) (by omega) (by rw [uI_e]; rfl) (sE_tr h2 (sE_tr (sE_u ⟨rfl, by omega⟩) (sE_u ⟨rfl, Or.inl rfl⟩))) (fun k hk2 => by
            rw [uI_o (by omega)]
            by_cases q : k = i
            · rw [q, show 212 + n + i = 212 + (n + i) by omega, uI_e]
            · rw [uI_o (by omega)]; exact h3 k (by omega))
          refine ⟨rt, g1, g2, g3, fun Q => ?_⟩
          refine (sg_X10_feed_40 (d := d + 69) s_E (fun _ => by rw [h1]; exact ⟨a2, by omega⟩)).trans ?_
          rw [if_pos (nI_lt (by omega) (by omega)), h1, a1, by_M w (by omega), uI_o (by omega) (a := 102) (b := 102) (j := 5), h1, ← nI_succ, ← nI_succ]
          exact g4 Q
      obtain ⟨rt, m1, m2, m3, m4⟩ := lpM m 0 rs (by omega) ((rs102 5).trans z4) sE_rf (fun k hk => absurd hk (by omega))
      have rt_o : ∀ a k, (a ≠ 34 ∨ k ≠ 1) → (a ≠ 35 ∨ k < n) → (a ≠ 102 ∨ (k ≠ 5 ∧ ¬ (212 + n ≤ k ∧ k < 262))) → rt a k = r a k := fun a k h1 h2 h3 => by
        rw [m2 a k (by omega), c2 a k (by omega)]
      refine ⟨nI (n + m), rs, rt, fun Q => ?_, fun Q => ?_, Inv_pl hI ⟨t, X, ok, xo, tC_f hC ok.n (fun a k q => ?_), xC_f hX (fun a k q => ?_), tM_f hM ok.n (fun k q => ?_), xM_f xo hXM (fun k q => ?_), ⟨?_, ?_, ?_⟩, ⟨n + m, tpB b n w, ⟨by omega, fun k hk => ?_, ?_, m1, fun k hk => ?_, fun k hk => ?_⟩⟩, wn, wt_f y5 (fun a k q => ?_) (fun k q => ?_)⟩ (sE_tr (sE_mo c2 (fun a k q => Or.inl (by omega))) (sE_mo m2 (fun a k q => Or.inr (Or.inl q.1))))⟩
      · rw [qC, if_neg hf]; exact c4 Q
      · rw [qM _ ((rs102 5).trans z4), if_neg hf]; exact m4 Q
      · unfold rTC at q; exact rt_o a k (by omega) (by omega) (by omega)
      · unfold rXC at q; exact rt_o a k (by omega) (by omega) (by omega)
      · unfold rTM at q; exact rt_o 102 k (by omega) (by omega) (by omega)
      · unfold rXM at q; exact rt_o 102 k (by omega) (by omega) (by omega)
      · rw [rt_o _ _ (by omega) (by omega) (by omega), rt_o _ _ (by omega) (by omega) (by omega)]; exact y1
      · rw [rt_o _ _ (by omega) (by omega) (by omega), rt_o _ _ (by omega) (by omega) (by omega)]; exact y2
      · rw [rt_o _ _ (by omega) (by omega) (by omega), rt_o _ _ (by omega) (by omega) (by omega)]; exact y3
      · unfold tpB
        by_cases q : k < n
        · rw [if_pos q]; exact z2 k q
        · rw [if_neg q]; exact bW_lt
      · rw [m2 _ _ (by omega)]; exact c1
      · unfold tpB
        by_cases q : k < n
        · rw [if_pos q, rt_o _ _ (by omega) (by omega) (by omega)]; exact z5 k q
        · rw [if_neg q, m2 _ _ (by omega)]
          have := c3 (k - n) (by omega)
          rwa [show n + (k - n) = k by omega] at this
      · unfold tpB
        by_cases q : k < n
        · rw [if_pos q, rt_o _ _ (by omega) (by omega) (by omega)]; exact z6 k q
        · rw [if_neg q]
          have := m3 (k - n) (by omega)
          rwa [show 212 + n + (k - n) = 212 + k by omega] at this
      · exact rt_o a k (by omega) (by omega) (by omega)
      · exact rt_o 102 k (by omega) (by omega) (by omega)
end FED
