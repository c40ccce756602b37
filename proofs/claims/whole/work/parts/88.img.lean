/-! IMAGE, RESTORE -/
/-- a copy, but for what it leaves -/
def cpS (P N : Nat) (s1 s2 s3 s4 s5 : Nat) (r r' : Nat → Nat → Int32) : Prop := (∀ i c, i < 7 → 1 ≤ c → c ≤ 9 → r' (13 + P + i) c = r (13 + N + i) c) ∧ (r' (25 + P) 1 = nI s1 ∧ ∀ k, k < s1 → r' (26 + P) k = r (26 + N) k) ∧ (r' (30 + P) 1 = nI s2 ∧ ∀ k, k < s2 → r' (31 + P) k = r (31 + N) k) ∧ (r' (32 + P) 1 = nI s3 ∧ ∀ k, k < s3 → r' (33 + P) k = r (33 + N) k) ∧ (r' (34 + P) 1 = nI s4 ∧ ∀ k, k < s4 → r' (35 + P) k = r (35 + N) k) ∧ (r' (36 + P) 1 = nI s5 ∧ ∀ k, k < s5 → r' (37 + P) k = r (37 + N) k) ∧ (∀ c, 7 ≤ c → c ≤ 11 → r' (11 + P) c = r (11 + N) c)
section IMG
variable {d : Nat} {E : pEv} {r r' r1 r2 rm rm' : Nat → Nat → Int32} {t t' : Th} {X : Tx} {Q : Option Value → pH → Prop}
theorem tC_cp {P N s1 s2 s4 s5 : Nat} (hn : t.n ≤ 7) (h : cpS P N s1 s2 t.n s4 s5 r r') (hC : tC t (fun a => r (a + N))) (k1 : ∀ i, i < 7 → r' (13 + P + i) 0 = nI i) (k2 : r' (20 + P) 1 = nI 4) : tC t (fun a => r' (a + P)) := by
  obtain ⟨c1, c2, c3, c4, c5, c6, c7⟩ := h
  have sc : ∀ i c, i < 7 → 1 ≤ c → c ≤ 9 → r' (13 + i + P) c = r (13 + i + N) c := fun i c hi q1 q2 => by
    have := c1 i c hi q1 q2
    rwa [show 13 + P + i = 13 + i + P by omega, show 13 + N + i = 13 + i + N by omega] at this
  refine ⟨?_, ?_, ?_, ?_, ?_, ?_, ?_, ?_, ?_, ?_, ?_, ?_, ?_, ?_, ?_⟩
  · exact (c7 7 (by omega) (by omega)).trans hC.n
  · intro i hi
    have := k1 i hi
    rwa [show 13 + P + i = 13 + i + P by omega] at this
  · intro i hi; exact (sc i 1 (by omega) (by omega) (by omega)).trans (hC.K i hi)
  · intro i hi; exact (sc i 2 (by omega) (by omega) (by omega)).trans (hC.M i hi)
  · intro i hi; exact (sc i 3 (by omega) (by omega) (by omega)).trans (hC.C i hi)
  · intro i hi; exact (sc i 4 (by omega) (by omega) (by omega)).trans (hC.T i hi)
  · intro i hi; exact (sc i 5 (by omega) (by omega) (by omega)).trans (hC.A i hi)
  · intro i hi; exact (sc i 6 (by omega) (by omega) (by omega)).trans (hC.P i hi)
  · intro i hi hp; exact (sc i 7 (by omega) (by omega) (by omega)).trans (hC.F i hi hp)
  · intro i hi hp; exact (sc i 8 (by omega) (by omega) (by omega)).trans (hC.G i hi hp)
  · intro i hi; exact (sc i 9 (by omega) (by omega) (by omega)).trans (hC.W i hi)
  · exact c4.1
  · intro i hi; exact (c4.2 i hi).trans (hC.o i hi)
  · exact (c7 8 (by omega) (by omega)).trans hC.b
  · exact k2
theorem xC_cp {P N s3 s4 s5 : Nat} (h : cpS P N (cdT (X 0).1 (X 0).2 0).length (cdT (X 1).1 (X 1).2 1).length s3 s4 s5 r r') (hX : xC X (fun a => r (a + N))) (k3 : ∀ u, u < 2 → r' (22 + P + 5 * u) 0 = nI u) : xC X (fun a => r' (a + P)) := by
  obtain ⟨c1, c2, c3, c4, c5, c6, c7⟩ := h
  refine ⟨fun u hu => ?_, fun u hu => ?_⟩
  · rcases (by omega : u = 0 ∨ u = 1) with rfl | rfl
    · exact ⟨c2.1, fun k hk => (c2.2 k hk).trans ((hX.1 0 (by omega)).2 k hk)⟩
    · exact ⟨c3.1, fun k hk => (c3.2 k hk).trans ((hX.1 1 (by omega)).2 k hk)⟩
  · have := k3 u hu
    rwa [show 22 + P + 5 * u = 22 + 5 * u + P by omega] at this
theorem PI_cp {P N n w : Nat} {b : Nat → Nat} (ok : tOK t) (xo : xOK X) (h : cpS P N (cdT (X 0).1 (X 0).2 0).length (cdT (X 1).1 (X 1).2 1).length t.n n w r r') (hC : tC t (fun a => r (a + N))) (hX : xC X (fun a => r (a + N))) (hM : tM t rm) (hXM : xM X rm) (y1 : r (11 + N) 9 = rm 102 3 ∧ r (11 + N) 10 = rm 102 4 ∧ r (11 + N) 11 = rm 102 1) (y4 : tpR n b (fun a => r (a + N)) rm) (y5 : wtR w (fun a => r (a + N)) rm) (k1 : ∀ i, i < 7 → r' (13 + P + i) 0 = nI i) (k2 : r' (20 + P) 1 = nI 4) (k3 : ∀ u, u < 2 → r' (22 + P + 5 * u) 0 = nI u) (hm : ∀ k, k < 264 → rm' 102 k = rm 102 k) : PI t X (fun a => r' (a + P)) rm' := by
  have h0 := h
  obtain ⟨c1, c2, c3, c4, c5, c6, c7⟩ := h
  refine ⟨tC_cp ok.n h0 hC k1 k2, xC_cp h0 hX k3, tM_f hM ok.n (fun k q => hm k (by unfold rTM at q; omega)), xM_f xo hXM (fun k q => hm k (by unfold rXM at q; omega)), ⟨?_, ?_, ?_⟩, ⟨n, b, y4.1, y4.2.1, c5.1, ?_, fun k hk => ?_, fun k hk => ?_⟩, w, y5.1, c6.1, ?_, fun k hk => ?_⟩
  · exact (c7 9 (by omega) (by omega)).trans (y1.1.trans (hm 3 (by omega)).symm)
  · exact (c7 10 (by omega) (by omega)).trans (y1.2.1.trans (hm 4 (by omega)).symm)
  · exact (c7 11 (by omega) (by omega)).trans (y1.2.2.trans (hm 1 (by omega)).symm)
  · exact (hm 5 (by omega)).trans y4.2.2.2.1
  · exact (c5.2 k hk).trans (y4.2.2.2.2.1 k hk)
  · have := y4.1
    exact (hm _ (by omega)).trans (y4.2.2.2.2.2 k hk)
  · exact (hm 6 (by omega)).trans y5.2.2.1
  · have := y5.1
    exact (c6.2 k hk).trans ((y5.2.2.2 k hk).trans (hm _ (by omega)).symm)
theorem st_image (s_E : oE E) (hI : Inv r) : stI E d r 130 [.ref 10] 240 [.ref 101] := by
  obtain ⟨⟨t, X, ok, xo, hC, hX, hM, hXM, y1, ⟨n, b, y4⟩, w, y5⟩, ⟨i1, i2, i3, i4, i5⟩, j3, j4, j5, j6⟩ := id hI
  have x0 := cd_len (xo 0 (by omega))
  have x1 := cd_len (xo 1 (by omega))
  have q0 := hX.1 0 (by omega)
  have q1 := hX.1 1 (by omega)
  obtain ⟨ra, hcp, e1⟩ := cp_im (d := d + 60) (E := E) (r := r) s_E ⟨q0.1, x0.1, by decide⟩ ⟨q1.1, x1.1, by decide⟩ ⟨hC.o1, ok.n, by decide⟩ ⟨y4.2.2.1, y4.1, by decide⟩ ⟨y5.2.1, y5.1, by decide⟩
  have hfr := hcp.2.2.2.2.2.2.2
  let rb : Nat → Nat → Int32 := uI ra 10 8 (ra 10 8 + 1)
  let rc : Nat → Nat → Int32 := fO rb 103 0 264 (fun k => rb 102 k)
  let rd : Nat → Nat → Int32 := uI rc 101 2 (rc 101 2 + 1)
  have ra108 : ra 10 8 = r 10 8 := hfr _ _ (by omega)
  have rc1012 : rc 101 2 = r 101 2 := by
    show fO rb 103 _ _ _ 101 2 = _
    rw [fO_o (by omega)]
    exact (uI_o (by omega)).trans (hfr _ _ (by omega))
  have rd_a : ∀ a k, a ≠ 103 → (a ≠ 101 ∨ k ≠ 2) → (a ≠ 10 ∨ k ≠ 8) → rd a k = ra a k := fun a k h1 h2 h3 => by
    show uI rc 101 2 _ a k = _
    rw [uI_o (by omega)]
    show fO rb 103 _ _ _ a k = _
    rw [fO_o (by omega)]
    exact uI_o (by omega)
  have rd_o : ∀ a k, a ≠ 103 → (a ≠ 101 ∨ k ≠ 2) → (a ≠ 10 ∨ k ≠ 8) → ¬ (38 ≤ a ∧ a ≤ 64) → rd a k = r a k := fun a k h1 h2 h3 h4 => (rd_a a k h1 h2 h3).trans (hfr a k (by omega))
  have lp : ∀ m i, i + m = 264 → ∀ Q, wG (d + 69) 240 (2, [.ref 101, .int (nI i)], [], mkH E (fO rb 103 0 i (fun k => rb 102 k))) Q = Q (some (.int (rc 101 2 + 1))) (mkH E rd) := by
    intro m
    induction m with
    | zero =>
      intro i hi Q
      obtain rfl : i = 264 := by omega
      refine (sg_X10_image_2 (d := d + 69) s_E (fun q => absurd q (by decide))).trans ?_
      rw [if_neg (by decide), uI_e]
    | succ m ih =>
      intro i hi Q
      have hlt : nI i < 264 := nI_lt (b := 264) (by omega) (by decide)
      refine (sg_X10_image_2 (d := d + 69) s_E (fun _ => ix_n (show i < 264 by omega) (by decide))).trans ?_
      have st := fO_s (r := rb) (a := 103) (b := 0) (s := i) (g := fun k => rb 102 k)
      rw [Nat.zero_add] at st
      rw [if_pos hlt, nI_clamp (by omega), fO_o (x := 102) (by omega), st, ← nI_succ]
      exact ih (i + 1) (by omega) Q
  have hP : PI t X (fun a => rd (a + 27)) (km rd) := by
    have hcp2 : cpS 27 0 (cdT (X 0).1 (X 0).2 0).length (cdT (X 1).1 (X 1).2 1).length t.n n w r rd := by
      obtain ⟨c1, c2, c3, c4, c5, c6, c7, c8⟩ := hcp
      have e : ∀ a k, 38 ≤ a → a ≤ 64 → rd a k = ra a k := fun a k h1 h2 => rd_a a k (by omega) (by omega) (by omega)
      refine ⟨fun i c hi q1 q2 => ?_, ⟨?_, fun k hk => ?_⟩, ⟨?_, fun k hk => ?_⟩, ⟨?_, fun k hk => ?_⟩, ⟨?_, fun k hk => ?_⟩, ⟨?_, fun k hk => ?_⟩, fun c q1 q2 => ?_⟩
      · exact (e _ _ (by omega) (by omega)).trans (c1 i c hi q1 q2)
      · exact (e _ _ (by omega) (by omega)).trans c2.1
      · exact (e _ _ (by omega) (by omega)).trans (c2.2 k hk)
      · exact (e _ _ (by omega) (by omega)).trans c3.1
      · exact (e _ _ (by omega) (by omega)).trans (c3.2 k hk)
      · exact (e _ _ (by omega) (by omega)).trans c4.1
      · exact (e _ _ (by omega) (by omega)).trans (c4.2 k hk)
      · exact (e _ _ (by omega) (by omega)).trans c5.1
      · exact (e _ _ (by omega) (by omega)).trans (c5.2 k hk)
      · exact (e _ _ (by omega) (by omega)).trans c6.1
      · exact (e _ _ (by omega) (by omega)).trans (c6.2 k hk)
      · exact (e _ _ (by omega) (by omega)).trans (c7 c q1 q2)
    exact PI_cp ok xo hcp2 hC hX hM hXM y1 y4 y5 (fun i hi => by rw [rd_a _ _ (by omega) (by omega) (by omega), hfr _ _ (by omega), show 13 + 27 + i = 40 + i by omega]; exact i3 i hi) (by rw [rd_a _ _ (by omega) (by omega) (by omega), hfr _ _ (by omega)]; exact i4) (fun u hu => by rw [rd_a _ _ (by omega) (by omega) (by omega), hfr _ _ (by omega), show 22 + 27 + 5 * u = 49 + 5 * u by omega]; exact i5 u hu) (fun k hk => by
      show rd 103 k = r 102 k
      show uI rc 101 2 _ 103 k = _
      rw [uI_o (by omega)]
      have := fO_e (r := rb) (a := 103) (b := 0) (s := 264) (k := k) (g := fun k => rb 102 k) hk
      rw [Nat.zero_add] at this
      exact this.trans ((uI_o (by omega)).trans (hfr _ _ (by omega))))
  refine ⟨r 10 8 + 1, rb, rd, fun Q => ?_, fun Q => ?_, PInv_f hI.1 (fun a k q => rd_o a k (by unfold rPC at q; omega) (by unfold rPC at q; omega) (by unfold rPC at q; omega) (by unfold rPC at q; omega)) (fun k q => rd_o 102 k (by omega) (by omega) (by omega) (by omega)), ⟨?_, fun _ => ⟨t, X, ok, xo, hP⟩, fun i hi => ?_, ?_, fun u hu => ?_⟩, eR_f j3 (fun a k q => rd_o a k (by omega) (by omega) (by omega) (by omega)), vR_f j4 (fun a k q => rd_o a k (by omega) (by omega) (by omega) (by omega)), hR_f j5 (fun a k q => rd_o a k (by omega) (by omega) (by omega) (by omega)), cz_f j6 (fun a q => rd_o a 1 (by omega) (by omega) (by omega) (by omega))⟩
  · refine (en_X9_image (d := d + 69) s_E).trans ?_
    refine (e1 _).trans ?_
    refine (sg_X9_image_11 (d := d + 69) s_E).trans ?_
    rw [uI_e, ra108]
    show Q _ (mkH E (uI ra 10 8 (r 10 8 + 1))) = Q _ (mkH E (uI ra 10 8 (ra 10 8 + 1)))
    rw [ra108]
  · refine (en_X10_image (d := d + 69) s_E).trans ?_
    have l1 := lp 264 0 (by omega) Q
    rw [fO_0, rc1012, ← i1] at l1
    exact l1
  · have a1 : rd 10 8 = r 10 8 + 1 := by
      show uI rc 101 2 _ 10 8 = _
      rw [uI_o (by omega)]
      show fO rb 103 _ _ _ 10 8 = _
      rw [fO_o (by omega)]
      show uI ra 10 8 _ 10 8 = _
      rw [uI_e, ra108]
    have a2 : rd 101 2 = r 101 2 + 1 := by
      show uI rc 101 2 _ 101 2 = _
      rw [uI_e, rc1012]
    rw [a1, a2, i1]
  · rw [rd_a _ _ (by omega) (by omega) (by omega), hfr _ _ (by omega)]; exact i3 i hi
  · rw [rd_a _ _ (by omega) (by omega) (by omega), hfr _ _ (by omega)]; exact i4
  · rw [rd_a _ _ (by omega) (by omega) (by omega), hfr _ _ (by omega)]; exact i5 u hu
theorem st_restore (s_E : oE E) (hI : Inv r) : stI E d r 131 [.ref 10] 241 [.ref 101] := by
  obtain ⟨i0, ⟨i1, i2, i3, i4, i5⟩, j3, j4, j5, j6⟩ := id hI
  by_cases h0 : r 10 8 = 0
  · refine st_e hI (k := 2) (by decide) (fun Q => ?_) (fun Q => ?_)
    · refine (en_X9_restore (d := d + 69) s_E).trans ?_
      rw [if_pos h0, er2]
      refine (x_wr (d := d + 67) s_E (by decide)).trans ?_
      exact sg_X9_restore_13 (d := d + 69) s_E
    · refine (en_X10_restore (d := d + 69) s_E).trans ?_
      have e : eC r 2 101 2 = 0 := (uI_o (by omega)).trans (i1.symm.trans h0)
      rw [if_pos e]
      refine (x_fin (d := d + 68) (k := 2) s_E (by decide)).trans ?_
      exact sg_X10_restore_12 (d := d + 69) s_E
  · obtain ⟨t, X, ok, xo, hC, hX, hM, hXM, y1, ⟨n, b, y4⟩, w, y5⟩ := i2 h0
    obtain ⟨t0, X0, ok0, xo0, hC0, hX0, _⟩ := i0
    have x0 := cd_len (xo 0 (by omega))
    have x1 := cd_len (xo 1 (by omega))
    have q0 := hX.1 0 (by omega)
    have q1 := hX.1 1 (by omega)
    obtain ⟨ra, hcp, e1⟩ := cp_re (d := d + 60) (E := E) (r := r) s_E ⟨q0.1, x0.1, by decide⟩ ⟨q1.1, x1.1, by decide⟩ ⟨hC.o1, ok.n, by decide⟩ ⟨y4.2.2.1, y4.1, by decide⟩ ⟨y5.2.1, y5.1, by decide⟩
    obtain ⟨c1, c2, c3, c4, c5, c6, c7, hfr⟩ := id hcp
    let rd : Nat → Nat → Int32 := fO ra 102 0 264 (fun k => ra 103 k)
    have rd_a : ∀ a k, a ≠ 102 → rd a k = ra a k := fun a k h => fO_o (Or.inl h)
    have rd_o : ∀ a k, a ≠ 102 → ¬ (11 ≤ a ∧ a ≤ 37) → rd a k = r a k := fun a k h1 h2 => (rd_a a k h1).trans (hfr a k (by omega))
    have rd2 : ∀ k, k < 264 → rd 102 k = r 103 k := fun k hk => by
      have := fO_e (r := ra) (a := 102) (b := 0) (s := 264) (k := k) (g := fun k => ra 103 k) hk
      rw [Nat.zero_add] at this
      exact this.trans (hfr _ _ (by omega))
    have lp : ∀ m i, i + m = 264 → ∀ Q, wG (d + 69) 241 (15, [.ref 101, .int (nI i)], [], mkH E (fO ra 102 0 i (fun k => ra 103 k))) Q = Q (some (.int (rd 102 4))) (mkH E rd) := by
      intro m
      induction m with
      | zero =>
        intro i hi Q
        obtain rfl : i = 264 := by omega
        refine (sg_X10_restore_15 (d := d + 69) s_E (fun q => absurd q (by decide))).trans ?_
        rw [if_neg (by decide)]
      | succ m ih =>
        intro i hi Q
        have hlt : nI i < 264 := nI_lt (b := 264) (by omega) (by decide)
        refine (sg_X10_restore_15 (d := d + 69) s_E (fun _ => ix_n (show i < 264 by omega) (by decide))).trans ?_
        have st := fO_s (r := ra) (a := 102) (b := 0) (s := i) (g := fun k => ra 103 k)
        rw [Nat.zero_add] at st
        rw [if_pos hlt, nI_clamp (by omega), fO_o (x := 103) (by omega), st, ← nI_succ]
        exact ih (i + 1) (by omega) Q
    have hcp2 : cpS 0 27 (cdT (X 0).1 (X 0).2 0).length (cdT (X 1).1 (X 1).2 1).length t.n n w r rd := by
      have e : ∀ a k, 11 ≤ a → a ≤ 37 → rd a k = ra a k := fun a k h1 h2 => rd_a a k (by omega)
      refine ⟨fun i c hi q1 q2 => ?_, ⟨?_, fun k hk => ?_⟩, ⟨?_, fun k hk => ?_⟩, ⟨?_, fun k hk => ?_⟩, ⟨?_, fun k hk => ?_⟩, ⟨?_, fun k hk => ?_⟩, fun c q1 q2 => ?_⟩
      · exact (e _ _ (by omega) (by omega)).trans (c1 i c hi q1 q2)
      · exact (e _ _ (by omega) (by omega)).trans c2.1
      · exact (e _ _ (by omega) (by omega)).trans (c2.2 k hk)
      · exact (e _ _ (by omega) (by omega)).trans c3.1
      · exact (e _ _ (by omega) (by omega)).trans (c3.2 k hk)
      · exact (e _ _ (by omega) (by omega)).trans c4.1
      · exact (e _ _ (by omega) (by omega)).trans (c4.2 k hk)
      · exact (e _ _ (by omega) (by omega)).trans c5.1
      · exact (e _ _ (by omega) (by omega)).trans (c5.2 k hk)
      · exact (e _ _ (by omega) (by omega)).trans c6.1
      · exact (e _ _ (by omega) (by omega)).trans (c6.2 k hk)
      · exact (e _ _ (by omega) (by omega)).trans (c7 c q1 q2)
    have hP : PI t X rd rd := PI_cp (rm := km r) ok xo hcp2 hC hX hM hXM y1 y4 y5 (fun i hi => by
      rw [rd_a _ _ (by omega), hfr _ _ (by omega)]
      have := hC0.N i hi
      rwa [show 13 + 0 + i = 13 + i by omega]) (by rw [rd_a _ _ (by omega), hfr _ _ (by omega)]; exact hC0.sp) (fun u hu => by
      rw [rd_a _ _ (by omega), hfr _ _ (by omega)]
      have := hX0.2 u hu
      rwa [show 22 + 0 + 5 * u = 22 + 5 * u by omega]) (fun k hk => rd2 k hk)
    have ev : ra 11 10 = rd 102 4 := by
      rw [rd2 4 (by omega)]
      exact (c7 10 (by omega) (by omega)).trans y1.2.1
    refine ⟨ra 11 10, ra, rd, fun Q => ?_, fun Q => ?_, ⟨t, X, ok, xo, hP⟩, ⟨?_, fun q => ?_, fun i hi => ?_, ?_, fun u hu => ?_⟩, eR_f j3 (fun a k q => rd_o a k (by omega) (by omega)), vR_f j4 (fun a k q => rd_o a k (by omega) (by omega)), hR_f j5 (fun a k q => rd_o a k (by omega) (by omega)), cz_f j6 (fun a q => rd_o a 1 (by omega) (by omega))⟩
    · refine (en_X9_restore (d := d + 69) s_E).trans ?_
      rw [if_neg h0]
      refine (e1 _).trans ?_
      exact sg_X9_restore_25 (d := d + 69) s_E
    · refine (en_X10_restore (d := d + 69) s_E).trans ?_
      have e : ¬ ra 101 2 = 0 := fun q => h0 (i1.trans ((hfr 101 2 (by omega)).symm.trans q))
      rw [if_neg e, ev]
      have l1 := lp 264 0 (by omega) Q
      rw [fO_0] at l1
      exact l1
    · rw [rd_o _ _ (by omega) (by omega), rd_o _ _ (by omega) (by omega)]; exact i1
    · exact PInv_f (i2 h0) (fun a k q => rd_o _ _ (by unfold rPC at q; omega) (by unfold rPC at q; omega)) (fun k _ => rd_o 103 k (by omega) (by omega))
    · rw [rd_o _ _ (by omega) (by omega)]; exact i3 i hi
    · rw [rd_o _ _ (by omega) (by omega)]; exact i4
    · rw [rd_o _ _ (by omega) (by omega)]; exact i5 u hu
end IMG
