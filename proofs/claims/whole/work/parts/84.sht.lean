/-! SHEETS: put -/
section SHT
variable {d : Nat} {E : pEv} {r r' r1 r2 : Nat → Nat → Int32} {t t' : Th} {X : Tx} {Q : Option Value → pH → Prop}
def sx (bi : Nat) (v : Int32) : Int32 := (v <<< ((32 - nI bi) &&& 31)) >>> ((32 - nI bi) &&& 31)
theorem sx_b (v : Int32) {n k : Nat} (hk : k < 32) (hn : n + k = 32) (a : Int32) (e : (a.toBitVec.smod 32).toNat = k) : ((v <<< a) >>> a).toBitVec = (v.toBitVec.signExtend n).signExtend 32 := by
  rw [Int32.toBitVec_shiftRight, Int32.toBitVec_shiftLeft]
  show (v.toBitVec <<< (a.toBitVec.smod 32)).sshiftRight (a.toBitVec.smod 32).toNat = _
  rw [BitVec.shiftLeft_eq', e]
  apply BitVec.eq_of_getLsbD_eq
  intro i hi
  rw [BitVec.getLsbD_sshiftRight, BitVec.getLsbD_signExtend]
  have d1 : decide (i < 32) = true := decide_eq_true hi
  have d2 : decide (32 ≤ i) = false := decide_eq_false (by omega)
  rw [d1, d2, Bool.not_false, Bool.true_and, Bool.true_and]
  by_cases q : i < n
  · have d3 : decide (i < n) = true := decide_eq_true q
    have d4 : decide (k + i < 32) = true := decide_eq_true (by omega)
    have d5 : decide (k + i < k) = false := decide_eq_false (by omega)
    rw [if_pos (by omega), if_pos q, BitVec.getLsbD_shiftLeft, BitVec.getLsbD_signExtend, if_pos hi, d3, d4, d5, show k + i - k = i by omega]
    rfl
  · rw [if_neg (by omega), if_neg q, BitVec.msb_eq_getLsbD_last, BitVec.msb_eq_getLsbD_last, BitVec.getLsbD_shiftLeft, BitVec.getLsbD_signExtend]
    by_cases n0 : n = 0
    · omega
    · have d4 : decide (32 - 1 < 32) = true := by decide
      have d5 : decide (32 - 1 < k) = false := decide_eq_false (by omega)
      have d3 : decide (n - 1 < n) = true := decide_eq_true (by omega)
      rw [d4, d5, d3, if_pos (by omega), show 32 - 1 - k = n - 1 by omega]
      rfl
theorem sx_8 (v : Int32) : sx 8 v = v.toInt8.toInt32 := by
  apply Int32.toBitVec_inj.mp
  have e : ((32 - nI 8 : Int32) &&& 31) = 24 := by decide
  unfold sx
  rw [e]
  exact sx_b v (n := 8) (k := 24) (by omega) (by omega) 24 (by decide)
theorem sx_16 (v : Int32) : sx 16 v = v.toInt16.toInt32 := by
  apply Int32.toBitVec_inj.mp
  have e : ((32 - nI 16 : Int32) &&& 31) = 16 := by decide
  unfold sx
  rw [e]
  exact sx_b v (n := 16) (k := 16) (by omega) (by omega) 16 (by decide)
theorem sx_32 (v : Int32) : sx 32 v = v := by
  apply Int32.toBitVec_inj.mp
  have e : ((32 - nI 32 : Int32) &&& 31) = 0 := by decide
  unfold sx
  rw [e]
  refine (sx_b v (n := 32) (k := 0) (by omega) (by omega) 0 (by decide)).trans ?_
  rw [BitVec.signExtend_eq, BitVec.signExtend_eq]
theorem in_z {z : Nat} (hz : z < 1000) (x : Int32) : f_X9_within x 0 (nI z - 1) = 0 ∨ ∃ j, j < z ∧ x = nI j ∧ f_X9_within x 0 (nI z - 1) = 1 := by
  rcases Nat.eq_zero_or_pos z with h0 | h0
  · left
    rw [h0]
    unfold f_X9_within
    by_cases q : x < 0
    · rw [if_pos q]
    · obtain ⟨j, hj, rfl⟩ := nI_of q
      rw [if_neg q, if_pos]
      refine Int32.lt_iff_toInt_lt.mpr ?_
      rw [nI_toInt hj, show (nI 0 - 1).toInt = -1 from by decide]
      omega
  · obtain ⟨m, rfl⟩ : ∃ m, z = m + 1 := ⟨z - 1, by omega⟩
    rw [nI_pred]
    rcases wi_n (x := x) (m := m) (by omega) with ⟨q1, j, hj, hx⟩ | ⟨q1, q2⟩
    · exact Or.inr ⟨j, by omega, hx, q1⟩
    · exact Or.inl q1
theorem sAt : ∀ s, s < 4 → f_X9_sheetAt (nI s) = 88 + 3 * s := by decide +kernel
/-- the guard of a sheet -/
theorem eSh (h : hR r) (x : Int32) : (f_X9_within x 0 3 = 0 ∧ f_X9_errorOfSheet r x = er 1) ∨ ∃ s z bi, s < 4 ∧ x = nI s ∧ f_X9_within x 0 3 = 1 ∧ shR s z bi r ∧ (bi = 0 ∧ f_X9_errorOfSheet r x = er 2 ∨ bi ≠ 0 ∧ f_X9_errorOfSheet r x = 0) := by
  have gC : f_X9_isSheet x = f_X9_within x 0 3 := rfl
  rcases wi_v (x := x) (a := 0) (m := 3) (by decide) (by decide) with h2 | ⟨s, _, hs, rfl, h2⟩
  · have h2 : f_X9_within x 0 3 = 0 := h2
    refine Or.inl ⟨h2, ?_⟩
    unfold f_X9_errorOfSheet
    rw [gC, h2, if_pos rfl, er1]
  · have h2 : f_X9_within (nI s) 0 3 = 1 := h2
    obtain ⟨z, bi, hh⟩ := h s (by omega)
    refine Or.inr ⟨s, z, bi, by omega, rfl, h2, hh, ?_⟩
    unfold f_X9_errorOfSheet
    rw [gC, h2, if_neg (by decide), sAt s (by omega), hh.2.2.1]
    by_cases q : bi = 0
    · exact Or.inl ⟨q, by rw [q, if_pos (show nI 0 = 0 from rfl), er2]⟩
    · have hb := hh.2.1
      have n0 : ¬ nI bi = 0 := fun w => q ((nI_eq (b := 0) (by omega) (by decide)).mp w)
      exact Or.inr ⟨q, by rw [if_neg n0]⟩
theorem erN : ¬ er 1 = 0 ∧ ¬ er 2 = 0 := by decide
theorem ix40 : ∀ s, s < 4 → ∀ j, j < 40 → (40 * nI s + nI j).toNatClampNeg = 40 * s + j ∧ ¬ (40 * nI s + nI j) < 0 := by decide +kernel
theorem bi_t : ∀ bi, bi < 33 → (nI bi = 0 ↔ bi = 0) ∧ (nI bi = 8 ↔ bi = 8) ∧ (nI bi = 16 ↔ bi = 16) := by decide +kernel
theorem hR_eC {k : Nat} (h : hR r) : hR (eC r k) := hR_f h (fun a j q => uI_o (by omega))
theorem sh_u {s z bi j : Nat} {y : Int32} (h : shR s z bi r) (hs : s < 4) (hj : j < z) : shR s z bi (uI (uI r (90 + 3 * s) j y) 114 (40 * s + j) y) := by
  obtain ⟨h1, h2, h3, h4, h5, h6, h7⟩ := h
  refine ⟨h1, h2, ?_, ?_, ?_, ?_, fun k hk => ?_⟩
  · rw [uI_o (by omega), uI_o (by omega)]; exact h3
  · rw [uI_o (by omega), uI_o (by omega)]; exact h4
  · rw [uI_o (by omega), uI_o (by omega)]; exact h5
  · rw [uI_o (by omega), uI_o (by omega)]; exact h6
  · by_cases q : k = j
    · rw [q, uI_o (by omega), uI_e, uI_e]
    · rw [uI_o (by omega), uI_o (by omega), uI_o (by omega), uI_o (by omega)]; exact h7 k hk
/-- only sheets changed -/
def PS : Nat → Nat → Prop := fun a _ => (88 ≤ a ∧ a ≤ 99) ∨ (112 ≤ a ∧ a ≤ 115)
theorem Inv_s (hI : Inv r) (h : hR r') (s : sE PS r r') : Inv r' := by
  obtain ⟨i1, i2, i3, i4, i5, i6⟩ := hI
  exact ⟨PInv_f i1 (fun a k q => s a k (by unfold rPC at q; unfold PS; omega)) (fun k q => s 102 k (by unfold PS; omega)), kR_f i2 (fun a k q => s a k (by unfold PS; omega)), eR_f i3 (fun a k q => s a k (by unfold PS; omega)), vR_f i4 (fun a k q => s a k (by unfold PS; omega)), h, cz_f i6 (fun a q => s a 1 (by unfold PS; omega))⟩
theorem hR_1 {s z bi : Nat} (h : hR r) (hs : s < 4) (h1 : shR s z bi r') (e : ∀ a k, (88 ≤ a ∧ a ≤ 99 ∧ ¬ (88 + 3 * s ≤ a ∧ a ≤ 90 + 3 * s)) ∨ ((a = 112 ∨ a = 113) ∧ k ≠ s) ∨ (a = 114 ∧ ¬ (40 * s ≤ k ∧ k < 40 * s + 40)) → r' a k = r a k) : hR r' := fun u hu => by
  by_cases q : u = s
  · rw [q]; exact ⟨z, bi, h1⟩
  · obtain ⟨z', bi', h2⟩ := h u hu
    exact ⟨z', bi', sh_f h2 hu (fun a k w => e a k (by omega))⟩
theorem st_put (s_E : oE E) (hI : Inv r) {x i v : Int32} : stI E d r 126 [.ref 10, .int x, .int i, .int v] 235 [.ref 101, .int x, .int i, .int v] := by
  have hh := hI.2.2.2.2.1
  have pC : ∀ Q, wX (d + 70) 126 [.ref 10, .int x, .int i, .int v] (mkH E r) Q = Q (some (.int (f_X9_put r x i v))) (mkH E (g_X9_put r x i v)) := fun Q => x_X9_put (d := d + 66) s_E (fun _ _ _ => by decide) (fun _ => by
    rcases eSh hh x with ⟨_, e⟩ | ⟨s, z, bi, _, _, _, _, ⟨_, e⟩ | ⟨_, e⟩⟩ <;> rw [e] <;> decide)
  have gM : f_X10_isSheet x = f_X9_within x 0 3 := in_l (a := 0) (b := 3)
  rcases eSh hh x with ⟨h, e⟩ | ⟨s, z, bi, hs, rfl, h, hsh, q⟩
  · have pM : ∀ ra Q, wX (d + 70) 235 [.ref 101, .int x, .int i, .int v] (mkH E ra) Q = Q (some (.int (f_X10_put ra x i v))) (mkH E (g_X10_put ra x i v)) := fun ra Q => x_X10_put (d := d + 67) s_E (fun q => absurd (gM.trans h) q) (fun q _ => absurd (gM.trans h) q) (fun q _ _ => absurd (gM.trans h) q) (fun q _ _ _ => absurd (gM.trans h) q) (fun q _ _ _ => absurd (gM.trans h) q) (fun q _ _ _ _ => absurd (gM.trans h) q) (fun q _ _ _ _ => absurd (gM.trans h) q)
    refine st_e hI (k := 1) (by decide) (fun Q => ?_) (fun Q => ?_)
    · rw [pC]
      unfold f_X9_put g_X9_put
      rw [e, if_neg erN.1, if_neg erN.1, wr_f (by decide), wr_g (by decide)]
    · rw [pM]
      unfold f_X10_put g_X10_put
      rw [gM, h, if_pos rfl, if_pos rfl, fi1, gi1]
  · obtain ⟨z1, z2, z3, z4, z5, z6, z7⟩ := id hsh
    obtain ⟨t0, t8, t16⟩ := bi_t bi (by omega)
    have gI : f_X10_in i.toInt64 0 ((nI z - 1).toInt64) = f_X9_within i 0 (nI z - 1) := in_l (a := 0) (b := nI z - 1)
    have ixz : ∀ ra : Nat → Nat → Int32, ra 113 s = nI z → ¬ f_X10_in i.toInt64 0 (((ra 113 (nI s).toNatClampNeg) - 1).toInt64) = 0 → ¬ ((40 * nI s) + i) < 0 ∧ ((40 * nI s) + i).toNatClampNeg < 160 := fun ra hra w => by
      rw [nI_clamp (by omega), hra, gI] at w
      rcases in_z (z := z) (by omega) i with w2 | ⟨j, hj, rfl, _⟩
      · exact absurd w2 w
      · have := ix40 s hs j (by omega)
        exact ⟨this.2, by omega⟩
    have xs : ¬ nI s < 0 ∧ (nI s).toNatClampNeg < 4 := ix_n hs (by decide)
    have pM : ∀ ra : Nat → Nat → Int32, ra 113 s = nI z → ∀ Q, wX (d + 70) 235 [.ref 101, .int (nI s), .int i, .int v] (mkH E ra) Q = Q (some (.int (f_X10_put ra (nI s) i v))) (mkH E (g_X10_put ra (nI s) i v)) := fun ra hra Q => x_X10_put (d := d + 67) s_E (fun _ => xs) (fun _ _ => xs) (fun _ _ _ => xs) (fun _ _ w _ => ixz ra hra w) (fun _ _ _ _ => xs) (fun _ _ w _ _ => ixz ra hra w) (fun _ _ w _ _ => ixz ra hra w)
    rcases q with ⟨b0, e⟩ | ⟨b0, e⟩
    · refine st_e hI (k := 2) (by decide) (fun Q => ?_) (fun Q => ?_)
      · rw [pC]
        unfold f_X9_put g_X9_put
        rw [e, if_neg erN.2, if_neg erN.2, wr_f (by decide), wr_g (by decide)]
      · have e112 : eC r 2 112 s = 0 := (uI_o (by omega)).trans (z4.trans (t0.mpr b0))
        rw [pM (eC r 2) ((uI_o (by omega)).trans z6)]
        unfold f_X10_put g_X10_put
        rw [gM, h, nI_clamp (by omega), i10, i10, e112, i00, i00, fi2, gi2]
    · have n0 : ¬ nI bi = 0 := fun w => b0 (t0.mp w)
      have e88 : f_X9_sheetAt (nI s) + 1 = 89 + 3 * s := by rw [sAt s hs]; omega
      rcases in_z (z := z) (by omega) i with w | ⟨j, hj, rfl, w⟩
      · refine st_e hI (k := 1) (by decide) (fun Q => ?_) (fun Q => ?_)
        · rw [pC]
          unfold f_X9_put g_X9_put
          rw [e, i00, i00, e88, z5, w, i00, i00, er1, wr_f (by decide), wr_g (by decide)]
        · have e112 : eC r 1 112 s = nI bi := (uI_o (by omega)).trans z4
          have e113 : eC r 1 113 s = nI z := (uI_o (by omega)).trans z6
          rw [pM _ e113]
          unfold f_X10_put g_X10_put
          rw [gM, h, nI_clamp (by omega), i10, i10, e112, e113, gI, w, if_neg n0, if_neg n0, i00, i00, fi1, gi1]
      · have ew : g_X6_write r (f_X9_sheetAt (nI s)) (nI j) v = uI r (90 + 3 * s) j (sx bi v) := by
          unfold g_X6_write g_X4_change
          rw [sAt s hs, show 88 + 3 * s + 1 = 89 + 3 * s by omega, z5, z3, if_neg (nI_pos (by omega)), if_pos (nI_lt hj (by omega)), show (Int32.ofNat 40) = nI 40 from rfl, if_pos (nI_lt (by omega) (by omega)), nI_clamp (by omega), show 89 + 3 * s + 1 = 90 + 3 * s by omega]
          rfl
        obtain ⟨x40, _⟩ := ix40 s hs j (by omega)
        refine ⟨1, uI r (90 + 3 * s) j (sx bi v), uI (uI r (90 + 3 * s) j (sx bi v)) 114 (40 * s + j) (sx bi v), fun Q => ?_, fun Q => ?_, Inv_s hI (hR_1 hh hs (sh_u hsh hs hj) (fun a k q => ?_)) (sE_tr (sE_u (by unfold PS; omega)) (sE_u (by unfold PS; omega)))⟩
        · rw [pC]
          unfold f_X9_put g_X9_put
          rw [e, i00, i00, e88, z5, w, i10, i10, ew]
        · have e112 : (uI r (90 + 3 * s) j (sx bi v)) 112 s = nI bi := (uI_o (by omega)).trans z4
          have e113 : (uI r (90 + 3 * s) j (sx bi v)) 113 s = nI z := (uI_o (by omega)).trans z6
          rw [pM _ e113]
          unfold f_X10_put g_X10_put
          rw [gM, h, nI_clamp (by omega), i10, i10, e112, e113, gI, w, if_neg n0, if_neg n0, i10, i10, x40]
          rcases z2 with hb | hb | hb | hb
          · exact absurd hb b0
          · rw [if_pos (t8.mpr hb), if_pos (t8.mpr hb), hb, sx_8]
          · have n8 : ¬ nI bi = 8 := fun w => by have := t8.mp w; omega
            rw [if_neg n8, if_neg n8, if_pos (t16.mpr hb), if_pos (t16.mpr hb), hb, sx_16]
          · have n8 : ¬ nI bi = 8 := fun w => by have := t8.mp w; omega
            have n16 : ¬ nI bi = 16 := fun w => by have := t16.mp w; omega
            rw [if_neg n8, if_neg n8, if_neg n16, if_neg n16, hb, sx_32]
        · rw [uI_o (by omega), uI_o (by omega)]
end SHT
