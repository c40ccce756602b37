/-! A PLAY COPIED: the image kept, and back -/
section CPY
variable {d : Nat} {E : pEv} {r r' r1 r2 : Nat → Nat → Int32} {t t' : Th} {X : Tx} {Q : Option Value → pH → Prop}
theorem cs5 {a b x y : Nat} (h : b ≠ a) : g_X5_copyFrom r a b x y = if x = a ∧ 1 ≤ y ∧ y ≤ 9 then r b y else r x y := by
  have e : ∀ (q : Nat → Nat → Int32) k v j, uI q a k v b j = q b j := fun q k v j => uI_o (Or.inl h)
  unfold g_X5_copyFrom
  simp only [e]
  by_cases q : x = a ∧ 1 ≤ y ∧ y ≤ 9
  · rw [if_pos q]
    obtain ⟨rfl, q1, q2⟩ := q
    rcases (by omega : y = 1 ∨ y = 2 ∨ y = 3 ∨ y = 4 ∨ y = 5 ∨ y = 6 ∨ y = 7 ∨ y = 8 ∨ y = 9) with rfl | rfl | rfl | rfl | rfl | rfl | rfl | rfl | rfl
    · rw [uI_o (by omega), uI_o (by omega), uI_o (by omega), uI_o (by omega), uI_o (by omega), uI_o (by omega), uI_o (by omega), uI_o (by omega), uI_e]
    · rw [uI_o (by omega), uI_o (by omega), uI_o (by omega), uI_o (by omega), uI_o (by omega), uI_o (by omega), uI_o (by omega), uI_e]
    · rw [uI_o (by omega), uI_o (by omega), uI_o (by omega), uI_o (by omega), uI_o (by omega), uI_o (by omega), uI_e]
    · rw [uI_o (by omega), uI_o (by omega), uI_o (by omega), uI_o (by omega), uI_o (by omega), uI_e]
    · rw [uI_o (by omega), uI_o (by omega), uI_o (by omega), uI_o (by omega), uI_e]
    · rw [uI_o (by omega), uI_o (by omega), uI_o (by omega), uI_e]
    · rw [uI_o (by omega), uI_o (by omega), uI_e]
    · rw [uI_o (by omega), uI_e]
    · rw [uI_e]
  · rw [if_neg q, uI_o (by omega), uI_o (by omega), uI_o (by omega), uI_o (by omega), uI_o (by omega), uI_o (by omega), uI_o (by omega), uI_o (by omega), uI_o (by omega)]
/-- all that a copy makes: cells with P from those with N -/
def cpR (P N : Nat) (s1 s2 s3 s4 s5 : Nat) (r r' : Nat → Nat → Int32) : Prop := (∀ i c, i < 7 → 1 ≤ c → c ≤ 9 → r' (13 + P + i) c = r (13 + N + i) c) ∧ (r' (25 + P) 1 = nI s1 ∧ ∀ k, k < s1 → r' (26 + P) k = r (26 + N) k) ∧ (r' (30 + P) 1 = nI s2 ∧ ∀ k, k < s2 → r' (31 + P) k = r (31 + N) k) ∧ (r' (32 + P) 1 = nI s3 ∧ ∀ k, k < s3 → r' (33 + P) k = r (33 + N) k) ∧ (r' (34 + P) 1 = nI s4 ∧ ∀ k, k < s4 → r' (35 + P) k = r (35 + N) k) ∧ (r' (36 + P) 1 = nI s5 ∧ ∀ k, k < s5 → r' (37 + P) k = r (37 + N) k) ∧ (∀ c, 7 ≤ c → c ≤ 11 → r' (11 + P) c = r (11 + N) c) ∧ sE (fun a k => (a = 11 + P ∧ 7 ≤ k ∧ k ≤ 11) ∨ (13 + P ≤ a ∧ a ≤ 19 + P ∧ 1 ≤ k ∧ k ≤ 9) ∨ (25 + P ≤ a ∧ a ≤ 26 + P) ∨ (30 + P ≤ a ∧ a ≤ 37 + P)) r r'
theorem cp_im (s_E : oE E) {s1 s2 s3 s4 s5 : Nat} (h1 : rK r 25 50 s1) (h2 : rK r 30 50 s2) (h3 : rK r 32 7 s3) (h4 : rK r 34 50 s4) (h5 : rK r 36 20 s5) : ∃ r', cpR 27 0 s1 s2 s3 s4 s5 r r' ∧ ∀ Q, wX (d + 9) 44 [.ref 38, .ref 11] (mkH E r) Q = Q none (mkH E r') := by
  have sa0 : ∀ i, i < 7 → f_X2_at 38 (nI i) = 40 + i := by decide +kernel
  have sa1 : ∀ i, i < 7 → f_X2_at 11 (nI i) = 13 + i := by decide +kernel
  have os0 : ∀ i, i < 7 → oScene (40 + i) := fun i hi => by rw [← sa0 i hi]; exact oSc_at oP38
  have os1 : ∀ i, i < 7 → oScene (13 + i) := fun i hi => by rw [← sa1 i hi]; exact oSc_at oP11
  have lp : ∀ m i rr, i + m = 7 → (∀ p c, p < i → 1 ≤ c → c ≤ 9 → rr (40 + p) c = r (13 + p) c) → sE (fun a k => 40 ≤ a ∧ a ≤ 46 ∧ 1 ≤ k ∧ k ≤ 9) r rr → ∃ rs, (∀ p c, p < 7 → 1 ≤ c → c ≤ 9 → rs (40 + p) c = r (13 + p) c) ∧ sE (fun a k => 40 ≤ a ∧ a ≤ 46 ∧ 1 ≤ k ∧ k ≤ 9) r rs ∧ ∀ Q, wG (d + 8) 44 (2, [.ref 38, .ref 11, .int (nI i)], [], mkH E rr) Q = wX (d + 8) 69 [.ref 52, .ref 25] (mkH E rs) (fun v h' => wG (d + 8) 44 (47, [.ref 38, .ref 11, .int (nI 7)], pv v [], h') Q) := by
    intro m
    induction m with
    | zero =>
      intro i rr hi g1 g2
      obtain rfl : i = 7 := by omega
      refine ⟨rr, g1, g2, fun Q => ?_⟩
      refine (sg_X2_copyFrom_2 (d := d + 8) s_E oP38 oP11).trans ?_
      rw [if_neg (by decide)]
    | succ m ih =>
      intro i rr hi g1 g2
      obtain ⟨rs, f1, f2, f3⟩ := ih (i + 1) (g_X5_copyFrom rr (40 + i) (13 + i)) (by omega) (fun p c hp c1 c2 => by
        rw [cs5 (by omega)]
        by_cases q : p = i
        · rw [q, if_pos ⟨rfl, c1, c2⟩, g2 _ _ (by omega)]
        · rw [if_neg (by omega)]; exact g1 p c (by omega) c1 c2) (sE_tr g2 (fun a k q => by rw [cs5 (by omega), if_neg (by omega)]))
      refine ⟨rs, f1, f2, fun Q => ?_⟩
      refine (sg_X2_copyFrom_2 (d := d + 8) s_E oP38 oP11).trans ?_
      have hlt : nI i < 7 := nI_lt (b := 7) (by omega) (by decide)
      rw [if_pos hlt]
      refine (x_X2_at (d := d + 7) s_E oP38).trans ?_
      rw [sa0 i (by omega)]
      refine (sg_X2_copyFrom_16 (d := d + 8) s_E oP38 oP11 (os0 i (by omega))).trans ?_
      refine (x_X2_at (d := d + 7) s_E oP11).trans ?_
      rw [sa1 i (by omega)]
      refine (sg_X2_copyFrom_21 (d := d + 8) s_E oP38 oP11 (os0 i (by omega)) (os1 i (by omega))).trans ?_
      refine (x_X5_copyFrom (d := d + 7) s_E (os0 i (by omega)) (os1 i (by omega))).trans ?_
      refine (sg_X2_copyFrom_24 (d := d + 8) s_E oP38 oP11).trans ?_
      rw [← nI_succ]
      exact f3 Q
  obtain ⟨ra, l1, l2, l3⟩ := lp 7 0 r (by omega) (fun p c hp => absurd hp (by omega)) sE_rf
  let rb : Nat → Nat → Int32 := fR (uI ra 52 1 (nI s1)) 53 s1 (ra 26)
  let rc : Nat → Nat → Int32 := fR (uI rb 57 1 (nI s2)) 58 s2 (rb 31)
  let rd : Nat → Nat → Int32 := fR (uI rc 59 1 (nI s3)) 60 s3 (rc 33)
  let re : Nat → Nat → Int32 := fR (uI rd 61 1 (nI s4)) 62 s4 (rd 35)
  let rf : Nat → Nat → Int32 := fR (uI re 63 1 (nI s5)) 64 s5 (re 37)
  have sb : sE (fun a k => (a = 52 ∧ k = 1) ∨ a = 53) ra rb := sE_tr (sE_u (Or.inl ⟨rfl, rfl⟩)) (fR_E (fun k _ => Or.inr rfl))
  have sc : sE (fun a k => (a = 57 ∧ k = 1) ∨ a = 58) rb rc := sE_tr (sE_u (Or.inl ⟨rfl, rfl⟩)) (fR_E (fun k _ => Or.inr rfl))
  have sd : sE (fun a k => (a = 59 ∧ k = 1) ∨ a = 60) rc rd := sE_tr (sE_u (Or.inl ⟨rfl, rfl⟩)) (fR_E (fun k _ => Or.inr rfl))
  have se : sE (fun a k => (a = 61 ∧ k = 1) ∨ a = 62) rd re := sE_tr (sE_u (Or.inl ⟨rfl, rfl⟩)) (fR_E (fun k _ => Or.inr rfl))
  have sf : sE (fun a k => (a = 63 ∧ k = 1) ∨ a = 64) re rf := sE_tr (sE_u (Or.inl ⟨rfl, rfl⟩)) (fR_E (fun k _ => Or.inr rfl))
  have hra : ∀ a, 25 ≤ a → a ≤ 37 → ∀ k, ra a k = r a k := fun a q1 q2 k => l2 a k (by omega)
  have hrb : ∀ a, 25 ≤ a → a ≤ 37 → ∀ k, rb a k = r a k := fun a q1 q2 k => (sb a k (by omega)).trans (hra a q1 q2 k)
  have hrc : ∀ a, 25 ≤ a → a ≤ 37 → ∀ k, rc a k = r a k := fun a q1 q2 k => (sc a k (by omega)).trans (hrb a q1 q2 k)
  have hrd : ∀ a, 25 ≤ a → a ≤ 37 → ∀ k, rd a k = r a k := fun a q1 q2 k => (sd a k (by omega)).trans (hrc a q1 q2 k)
  have hre : ∀ a, 25 ≤ a → a ≤ 37 → ∀ k, re a k = r a k := fun a q1 q2 k => (se a k (by omega)).trans (hrd a q1 q2 k)
  let rz : Nat → Nat → Int32 := uI (uI (uI (uI (uI rf 38 7 (rf 11 7)) 38 8 (rf 11 8)) 38 9 (rf 11 9)) 38 10 (rf 11 10)) 38 11 (rf 11 11)
  have rz_o : ∀ a k, a ≠ 38 → rz a k = rf a k := fun a k q => by
    show uI _ 38 11 _ a k = _
    rw [uI_o (by omega), uI_o (by omega), uI_o (by omega), uI_o (by omega), uI_o (by omega)]
  have rf_a : ∀ a k, ¬ (52 ≤ a ∧ a ≤ 64) → rf a k = ra a k := fun a k q => by
    rw [sf a k (by omega), se a k (by omega), sd a k (by omega), sc a k (by omega), sb a k (by omega)]
  refine ⟨rz, ⟨fun i c hi c1 c2 => ?_, ⟨?_, fun k hk => ?_⟩, ⟨?_, fun k hk => ?_⟩, ⟨?_, fun k hk => ?_⟩, ⟨?_, fun k hk => ?_⟩, ⟨?_, fun k hk => ?_⟩, fun c c1 c2 => ?_, fun a k q => ?_⟩, fun Q => ?_⟩
  · rw [rz_o _ _ (by omega), rf_a _ _ (by omega)]
    exact l1 i c hi c1 c2
  · rw [rz_o _ _ (by omega), sf _ _ (by omega), se _ _ (by omega), sd _ _ (by omega), sc _ _ (by omega)]
    show fR _ _ _ _ 52 1 = _
    rw [fR_o (by omega), uI_e]
  · rw [rz_o _ _ (by omega), sf _ _ (by omega), se _ _ (by omega), sd _ _ (by omega), sc _ _ (by omega)]
    show fR _ _ _ _ 53 k = _
    rw [fR_at hk, hra _ (by omega) (by omega)]
  · rw [rz_o _ _ (by omega), sf _ _ (by omega), se _ _ (by omega), sd _ _ (by omega)]
    show fR _ _ _ _ 57 1 = _
    rw [fR_o (by omega), uI_e]
  · rw [rz_o _ _ (by omega), sf _ _ (by omega), se _ _ (by omega), sd _ _ (by omega)]
    show fR _ _ _ _ 58 k = _
    rw [fR_at hk, hrb _ (by omega) (by omega)]
  · rw [rz_o _ _ (by omega), sf _ _ (by omega), se _ _ (by omega)]
    show fR _ _ _ _ 59 1 = _
    rw [fR_o (by omega), uI_e]
  · rw [rz_o _ _ (by omega), sf _ _ (by omega), se _ _ (by omega)]
    show fR _ _ _ _ 60 k = _
    rw [fR_at hk, hrc _ (by omega) (by omega)]
  · rw [rz_o _ _ (by omega), sf _ _ (by omega)]
    show fR _ _ _ _ 61 1 = _
    rw [fR_o (by omega), uI_e]
  · rw [rz_o _ _ (by omega), sf _ _ (by omega)]
    show fR _ _ _ _ 62 k = _
    rw [fR_at hk, hrd _ (by omega) (by omega)]
  · rw [rz_o _ _ (by omega)]
    show fR _ _ _ _ 63 1 = _
    rw [fR_o (by omega), uI_e]
  · rw [rz_o _ _ (by omega)]
    show fR _ _ _ _ 64 k = _
    rw [fR_at hk, hre _ (by omega) (by omega)]
  · have eB : ∀ c, rf 11 c = r 11 c := fun c => (rf_a _ _ (by omega)).trans (l2 _ _ (by omega))
    show uI _ 38 11 _ 38 c = r 11 c
    rcases (by omega : c = 7 ∨ c = 8 ∨ c = 9 ∨ c = 10 ∨ c = 11) with rfl | rfl | rfl | rfl | rfl
    · rw [uI_o (by omega), uI_o (by omega), uI_o (by omega), uI_o (by omega), uI_e, eB]
    · rw [uI_o (by omega), uI_o (by omega), uI_o (by omega), uI_e, eB]
    · rw [uI_o (by omega), uI_o (by omega), uI_e, eB]
    · rw [uI_o (by omega), uI_e, eB]
    · rw [uI_e, eB]
  · show uI _ 38 11 _ a k = _
    rw [uI_o (by omega), uI_o (by omega), uI_o (by omega), uI_o (by omega), uI_o (by omega), sf a k (by omega), se a k (by omega), sd a k (by omega), sc a k (by omega), sb a k (by omega), l2 a k (by omega)]
  · refine (en_X2_copyFrom (d := d + 8) s_E oP38 oP11).trans ?_
    refine (l3 Q).trans ?_
    refine (x_cpy (d := d + 4) (a := 52) (b := 25) (ca := 50) (cb := 50) (s := s1) s_E (oR rfl) (oR rfl) ⟨(hra _ (by omega) (by omega) _).trans h1.1, h1.2⟩ h1.2.1 (by decide) (by decide) (by decide)).trans ?_
    refine (sg_X2_copyFrom_47 (d := d + 8) s_E oP38 oP11).trans ?_
    refine (x_cpy (d := d + 4) (a := 57) (b := 30) (ca := 50) (cb := 50) (s := s2) s_E (oR rfl) (oR rfl) ⟨(hrb _ (by omega) (by omega) _).trans h2.1, h2.2⟩ h2.2.1 (by decide) (by decide) (by decide)).trans ?_
    refine (sg_X2_copyFrom_64 (d := d + 8) s_E oP38 oP11).trans ?_
    refine (x_cpy (d := d + 4) (a := 59) (b := 32) (ca := 7) (cb := 7) (s := s3) s_E (oR rfl) (oR rfl) ⟨(hrc _ (by omega) (by omega) _).trans h3.1, h3.2⟩ h3.2.1 (by decide) (by decide) (by decide)).trans ?_
    refine (sg_X2_copyFrom_75 (d := d + 8) s_E oP38 oP11).trans ?_
    refine (x_cpy (d := d + 4) (a := 61) (b := 34) (ca := 50) (cb := 50) (s := s4) s_E (oR rfl) (oR rfl) ⟨(hrd _ (by omega) (by omega) _).trans h4.1, h4.2⟩ h4.2.1 (by decide) (by decide) (by decide)).trans ?_
    refine (sg_X2_copyFrom_86 (d := d + 8) s_E oP38 oP11).trans ?_
    refine (x_cpy (d := d + 4) (a := 63) (b := 36) (ca := 20) (cb := 20) (s := s5) s_E (oR rfl) (oR rfl) ⟨(hre _ (by omega) (by omega) _).trans h5.1, h5.2⟩ h5.2.1 (by decide) (by decide) (by decide)).trans ?_
    refine (sg_X2_copyFrom_97 (d := d + 8) s_E oP38 oP11).trans ?_
    have e : ∀ (q : Nat → Nat → Int32) k v j, uI q 38 k v 11 j = q 11 j := fun q k v j => uI_o (Or.inl (by decide))
    simp only [e]
    rfl
theorem cp_re (s_E : oE E) {s1 s2 s3 s4 s5 : Nat} (h1 : rK r 52 50 s1) (h2 : rK r 57 50 s2) (h3 : rK r 59 7 s3) (h4 : rK r 61 50 s4) (h5 : rK r 63 20 s5) : ∃ r', cpR 0 27 s1 s2 s3 s4 s5 r r' ∧ ∀ Q, wX (d + 9) 44 [.ref 11, .ref 38] (mkH E r) Q = Q none (mkH E r') := by
  have sa0 : ∀ i, i < 7 → f_X2_at 11 (nI i) = 13 + i := by decide +kernel
  have sa1 : ∀ i, i < 7 → f_X2_at 38 (nI i) = 40 + i := by decide +kernel
  have os0 : ∀ i, i < 7 → oScene (13 + i) := fun i hi => by rw [← sa0 i hi]; exact oSc_at oP11
  have os1 : ∀ i, i < 7 → oScene (40 + i) := fun i hi => by rw [← sa1 i hi]; exact oSc_at oP38
  have lp : ∀ m i rr, i + m = 7 → (∀ p c, p < i → 1 ≤ c → c ≤ 9 → rr (13 + p) c = r (40 + p) c) → sE (fun a k => 13 ≤ a ∧ a ≤ 19 ∧ 1 ≤ k ∧ k ≤ 9) r rr → ∃ rs, (∀ p c, p < 7 → 1 ≤ c → c ≤ 9 → rs (13 + p) c = r (40 + p) c) ∧ sE (fun a k => 13 ≤ a ∧ a ≤ 19 ∧ 1 ≤ k ∧ k ≤ 9) r rs ∧ ∀ Q, wG (d + 8) 44 (2, [.ref 11, .ref 38, .int (nI i)], [], mkH E rr) Q = wX (d + 8) 69 [.ref 25, .ref 52] (mkH E rs) (fun v h' => wG (d + 8) 44 (47, [.ref 11, .ref 38, .int (nI 7)], pv v [], h') Q) := by
    intro m
    induction m with
    | zero =>
      intro i rr hi g1 g2
      obtain rfl : i = 7 := by omega
      refine ⟨rr, g1, g2, fun Q => ?_⟩
      refine (sg_X2_copyFrom_2 (d := d + 8) s_E oP11 oP38).trans ?_
      rw [if_neg (by decide)]
    | succ m ih =>
      intro i rr hi g1 g2
      obtain ⟨rs, f1, f2, f3⟩ := ih (i + 1) (g_X5_copyFrom rr (13 + i) (40 + i)) (by omega) (fun p c hp c1 c2 => by
        rw [cs5 (by omega)]
        by_cases q : p = i
        · rw [q, if_pos ⟨rfl, c1, c2⟩, g2 _ _ (by omega)]
        · rw [if_neg (by omega)]; exact g1 p c (by omega) c1 c2) (sE_tr g2 (fun a k q => by rw [cs5 (by omega), if_neg (by omega)]))
      refine ⟨rs, f1, f2, fun Q => ?_⟩
      refine (sg_X2_copyFrom_2 (d := d + 8) s_E oP11 oP38).trans ?_
      have hlt : nI i < 7 := nI_lt (b := 7) (by omega) (by decide)
      rw [if_pos hlt]
      refine (x_X2_at (d := d + 7) s_E oP11).trans ?_
      rw [sa0 i (by omega)]
      refine (sg_X2_copyFrom_16 (d := d + 8) s_E oP11 oP38 (os0 i (by omega))).trans ?_
      refine (x_X2_at (d := d + 7) s_E oP38).trans ?_
      rw [sa1 i (by omega)]
      refine (sg_X2_copyFrom_21 (d := d + 8) s_E oP11 oP38 (os0 i (by omega)) (os1 i (by omega))).trans ?_
      refine (x_X5_copyFrom (d := d + 7) s_E (os0 i (by omega)) (os1 i (by omega))).trans ?_
      refine (sg_X2_copyFrom_24 (d := d + 8) s_E oP11 oP38).trans ?_
      rw [← nI_succ]
      exact f3 Q
  obtain ⟨ra, l1, l2, l3⟩ := lp 7 0 r (by omega) (fun p c hp => absurd hp (by omega)) sE_rf
  let rb : Nat → Nat → Int32 := fR (uI ra 25 1 (nI s1)) 26 s1 (ra 53)
  let rc : Nat → Nat → Int32 := fR (uI rb 30 1 (nI s2)) 31 s2 (rb 58)
  let rd : Nat → Nat → Int32 := fR (uI rc 32 1 (nI s3)) 33 s3 (rc 60)
  let re : Nat → Nat → Int32 := fR (uI rd 34 1 (nI s4)) 35 s4 (rd 62)
  let rf : Nat → Nat → Int32 := fR (uI re 36 1 (nI s5)) 37 s5 (re 64)
  have sb : sE (fun a k => (a = 25 ∧ k = 1) ∨ a = 26) ra rb := sE_tr (sE_u (Or.inl ⟨rfl, rfl⟩)) (fR_E (fun k _ => Or.inr rfl))
  have sc : sE (fun a k => (a = 30 ∧ k = 1) ∨ a = 31) rb rc := sE_tr (sE_u (Or.inl ⟨rfl, rfl⟩)) (fR_E (fun k _ => Or.inr rfl))
  have sd : sE (fun a k => (a = 32 ∧ k = 1) ∨ a = 33) rc rd := sE_tr (sE_u (Or.inl ⟨rfl, rfl⟩)) (fR_E (fun k _ => Or.inr rfl))
  have se : sE (fun a k => (a = 34 ∧ k = 1) ∨ a = 35) rd re := sE_tr (sE_u (Or.inl ⟨rfl, rfl⟩)) (fR_E (fun k _ => Or.inr rfl))
  have sf : sE (fun a k => (a = 36 ∧ k = 1) ∨ a = 37) re rf := sE_tr (sE_u (Or.inl ⟨rfl, rfl⟩)) (fR_E (fun k _ => Or.inr rfl))
  have hra : ∀ a, 52 ≤ a → a ≤ 64 → ∀ k, ra a k = r a k := fun a q1 q2 k => l2 a k (by omega)
  have hrb : ∀ a, 52 ≤ a → a ≤ 64 → ∀ k, rb a k = r a k := fun a q1 q2 k => (sb a k (by omega)).trans (hra a q1 q2 k)
  have hrc : ∀ a, 52 ≤ a → a ≤ 64 → ∀ k, rc a k = r a k := fun a q1 q2 k => (sc a k (by omega)).trans (hrb a q1 q2 k)
  have hrd : ∀ a, 52 ≤ a → a ≤ 64 → ∀ k, rd a k = r a k := fun a q1 q2 k => (sd a k (by omega)).trans (hrc a q1 q2 k)
  have hre : ∀ a, 52 ≤ a → a ≤ 64 → ∀ k, re a k = r a k := fun a q1 q2 k => (se a k (by omega)).trans (hrd a q1 q2 k)
  let rz : Nat → Nat → Int32 := uI (uI (uI (uI (uI rf 11 7 (rf 38 7)) 11 8 (rf 38 8)) 11 9 (rf 38 9)) 11 10 (rf 38 10)) 11 11 (rf 38 11)
  have rz_o : ∀ a k, a ≠ 11 → rz a k = rf a k := fun a k q => by
    show uI _ 11 11 _ a k = _
    rw [uI_o (by omega), uI_o (by omega), uI_o (by omega), uI_o (by omega), uI_o (by omega)]
  have rf_a : ∀ a k, ¬ (25 ≤ a ∧ a ≤ 37) → rf a k = ra a k := fun a k q => by
    rw [sf a k (by omega), se a k (by omega), sd a k (by omega), sc a k (by omega), sb a k (by omega)]
  refine ⟨rz, ⟨fun i c hi c1 c2 => ?_, ⟨?_, fun k hk => ?_⟩, ⟨?_, fun k hk => ?_⟩, ⟨?_, fun k hk => ?_⟩, ⟨?_, fun k hk => ?_⟩, ⟨?_, fun k hk => ?_⟩, fun c c1 c2 => ?_, fun a k q => ?_⟩, fun Q => ?_⟩
  · rw [rz_o _ _ (by omega), rf_a _ _ (by omega)]
    exact l1 i c hi c1 c2
  · rw [rz_o _ _ (by omega), sf _ _ (by omega), se _ _ (by omega), sd _ _ (by omega), sc _ _ (by omega)]
    show fR _ _ _ _ 25 1 = _
    rw [fR_o (by omega), uI_e]
  · rw [rz_o _ _ (by omega), sf _ _ (by omega), se _ _ (by omega), sd _ _ (by omega), sc _ _ (by omega)]
    show fR _ _ _ _ 26 k = _
    rw [fR_at hk, hra _ (by omega) (by omega)]
  · rw [rz_o _ _ (by omega), sf _ _ (by omega), se _ _ (by omega), sd _ _ (by omega)]
    show fR _ _ _ _ 30 1 = _
    rw [fR_o (by omega), uI_e]
  · rw [rz_o _ _ (by omega), sf _ _ (by omega), se _ _ (by omega), sd _ _ (by omega)]
    show fR _ _ _ _ 31 k = _
    rw [fR_at hk, hrb _ (by omega) (by omega)]
  · rw [rz_o _ _ (by omega), sf _ _ (by omega), se _ _ (by omega)]
    show fR _ _ _ _ 32 1 = _
    rw [fR_o (by omega), uI_e]
  · rw [rz_o _ _ (by omega), sf _ _ (by omega), se _ _ (by omega)]
    show fR _ _ _ _ 33 k = _
    rw [fR_at hk, hrc _ (by omega) (by omega)]
  · rw [rz_o _ _ (by omega), sf _ _ (by omega)]
    show fR _ _ _ _ 34 1 = _
    rw [fR_o (by omega), uI_e]
  · rw [rz_o _ _ (by omega), sf _ _ (by omega)]
    show fR _ _ _ _ 35 k = _
    rw [fR_at hk, hrd _ (by omega) (by omega)]
  · rw [rz_o _ _ (by omega)]
    show fR _ _ _ _ 36 1 = _
    rw [fR_o (by omega), uI_e]
  · rw [rz_o _ _ (by omega)]
    show fR _ _ _ _ 37 k = _
    rw [fR_at hk, hre _ (by omega) (by omega)]
  · have eB : ∀ c, rf 38 c = r 38 c := fun c => (rf_a _ _ (by omega)).trans (l2 _ _ (by omega))
    show uI _ 11 11 _ 11 c = r 38 c
    rcases (by omega : c = 7 ∨ c = 8 ∨ c = 9 ∨ c = 10 ∨ c = 11) with rfl | rfl | rfl | rfl | rfl
    · rw [uI_o (by omega), uI_o (by omega), uI_o (by omega), uI_o (by omega), uI_e, eB]
    · rw [uI_o (by omega), uI_o (by omega), uI_o (by omega), uI_e, eB]
    · rw [uI_o (by omega), uI_o (by omega), uI_e, eB]
    · rw [uI_o (by omega), uI_e, eB]
    · rw [uI_e, eB]
  · show uI _ 11 11 _ a k = _
    rw [uI_o (by omega), uI_o (by omega), uI_o (by omega), uI_o (by omega), uI_o (by omega), sf a k (by omega), se a k (by omega), sd a k (by omega), sc a k (by omega), sb a k (by omega), l2 a k (by omega)]
  · refine (en_X2_copyFrom (d := d + 8) s_E oP11 oP38).trans ?_
    refine (l3 Q).trans ?_
    refine (x_cpy (d := d + 4) (a := 25) (b := 52) (ca := 50) (cb := 50) (s := s1) s_E (oR rfl) (oR rfl) ⟨(hra _ (by omega) (by omega) _).trans h1.1, h1.2⟩ h1.2.1 (by decide) (by decide) (by decide)).trans ?_
    refine (sg_X2_copyFrom_47 (d := d + 8) s_E oP11 oP38).trans ?_
    refine (x_cpy (d := d + 4) (a := 30) (b := 57) (ca := 50) (cb := 50) (s := s2) s_E (oR rfl) (oR rfl) ⟨(hrb _ (by omega) (by omega) _).trans h2.1, h2.2⟩ h2.2.1 (by decide) (by decide) (by decide)).trans ?_
    refine (sg_X2_copyFrom_64 (d := d + 8) s_E oP11 oP38).trans ?_
    refine (x_cpy (d := d + 4) (a := 32) (b := 59) (ca := 7) (cb := 7) (s := s3) s_E (oR rfl) (oR rfl) ⟨(hrc _ (by omega) (by omega) _).trans h3.1, h3.2⟩ h3.2.1 (by decide) (by decide) (by decide)).trans ?_
    refine (sg_X2_copyFrom_75 (d := d + 8) s_E oP11 oP38).trans ?_
    refine (x_cpy (d := d + 4) (a := 34) (b := 61) (ca := 50) (cb := 50) (s := s4) s_E (oR rfl) (oR rfl) ⟨(hrd _ (by omega) (by omega) _).trans h4.1, h4.2⟩ h4.2.1 (by decide) (by decide) (by decide)).trans ?_
    refine (sg_X2_copyFrom_86 (d := d + 8) s_E oP11 oP38).trans ?_
    refine (x_cpy (d := d + 4) (a := 36) (b := 63) (ca := 20) (cb := 20) (s := s5) s_E (oR rfl) (oR rfl) ⟨(hre _ (by omega) (by omega) _).trans h5.1, h5.2⟩ h5.2.1 (by decide) (by decide) (by decide)).trans ?_
    refine (sg_X2_copyFrom_97 (d := d + 8) s_E oP11 oP38).trans ?_
    have e : ∀ (q : Nat → Nat → Int32) k v j, uI q 11 k v 38 j = q 38 j := fun q k v j => uI_o (Or.inl (by decide))
    simp only [e]
    rfl
end CPY
