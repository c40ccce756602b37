/-! A ROW COPIED; A TEXT TAKEN -/
section TXT
variable {d : Nat} {E : pEv} {r r' r1 r2 : Nat → Nat → Int32} {t t' : Th} {X : Tx} {Q : Option Value → pH → Prop} {v : Nat → Nat}
theorem vup_at {f : Nat → Nat → Int32} {a x : Nat} {g : Nat → Int32} : va_up f a g x = if x = a then g else f x := by
  unfold va_up
  rfl
theorem sub_0 {x : Int32} : x - x = 0 := by
  have := Int32.sub_self x
  exact this
theorem spn {a c s : Nat} (h : r a 1 = nI s) (hs : s < 1000) : f_X4_spans r a c 0 (nI s) = 1 := by
  unfold f_X4_spans
  rw [h, if_neg (nI_pos (by omega)), if_neg (by decide), sub_0, if_neg (by decide)]
theorem hld {a c s : Nat} (h : r a 1 = nI s) (hs : s ≤ c) (hc : c < 1000) : f_X4_holds r a c 0 (nI s) = 1 := by
  unfold f_X4_holds
  rw [spn h (by omega), if_neg (by decide), h]
  exact if_neg (nI_nlt hs (by omega))
theorem cp_eq {a b ca cb s : Nat} (hb : rK r b cb s) (hs : s ≤ ca) (hc : ca < 1000) (h1 : a ≠ b) (h2 : a ≠ b + 1) : g_X4_copyFrom r a ca b cb = fR (uI r a 1 (nI s)) (a + 1) s (r (b + 1)) := by
  obtain ⟨b1, b2, b3⟩ := hb
  have e : (if (Int32.ofNat ca) < (r b 1) then (Int32.ofNat ca) else (r b 1)) = nI s := by
    rw [b1]
    exact if_neg (nI_nlt hs (by omega))
  unfold g_X4_copyFrom g_X4_overwrite
  rw [e, uI_e, hld (s := s) (by rw [uI_o (by omega)]; exact b1) b2 b3, hld (s := s) uI_e hs hc, if_neg (by decide), if_neg (by decide)]
  funext x y
  rw [vup_at]
  unfold fR va_cpy
  rw [nI_clamp (by omega)]
  by_cases q : x = a + 1
  · rw [if_pos q]
    have z : (0 : Int32).toNatClampNeg = 0 := by decide
    rw [z]
    by_cases q2 : y < s
    · rw [if_pos (by omega), if_pos ⟨q, q2⟩, uI_o (by omega)]
      congr 1
      omega
    · rw [if_neg (by omega), if_neg (by omega), q]
  · rw [if_neg q, if_neg (fun w => q w.1)]
theorem x_cpy (s_E : oE E) {a b ca cb s : Nat} (ha : oRow a ca) (hb' : oRow b cb) (hb : rK r b cb s) (hs : s ≤ ca) (hc : ca < 1000) (h1 : a ≠ b) (h2 : a ≠ b + 1) : wX (d + 4) 69 [.ref a, .ref b] (mkH E r) Q = Q none (mkH E (fR (uI r a 1 (nI s)) (a + 1) s (r (b + 1)))) := by
  have e : (uI r a 1 (if (Int32.ofNat ca) < (r b 1) then (Int32.ofNat ca) else (r b 1))) a 1 = nI s := by
    rw [uI_e, hb.1]
    exact if_neg (nI_nlt hs (by omega))
  have hs2 := hb.2.1
  have z : (0 : Int32).toNatClampNeg = 0 := by decide
  refine (x_X4_copyFrom (d := d) s_E ha hb' (fun _ _ => by decide) (fun _ _ => by rw [e]; exact nI_pos (by omega)) (fun _ _ => by rw [e, nI_clamp (by omega), z]; omega) (fun _ _ => by rw [e, nI_clamp (by omega), z]; omega)).trans ?_
  rw [cp_eq hb hs hc h1 h2]
theorem tx_0 {b : Nat → Nat} {u : Nat} {x y z : Int32} {w : List Int32 × Int32} : ¬ txR b 0 u x y z = .inr w := by
  have h1 : inR b 0 u x y z 5 0 = .inl 0 := by
    have e : hr b 0 0 = 999 := rfl
    have n9 : nm u 999 = 9 := by
      unfold nm
      by_cases q : u = 0
      · rw [if_pos q]; rfl
      · rw [if_neg q]; rfl
    unfold inR
    rw [e, n9]
    rfl
  have h2 : txR b 0 u x y z = .inl 0 := by
    unfold txR ttR lvR
    rw [h1]
  rw [h2]
  intro q
  cases q
/-- the text of one use -/
def Tx.st (X : Tx) (u : Nat) (b : Nat → Nat) (n : Nat) : Tx := fun v => if v = u then (b, n) else X v
theorem txt_C (s_E : oE E) {u : Nat} (hu : u < 2) {s : Nat} {ra : Nat → Nat → Int32} (hb : rK ra 82 50 s) : wX (d + 4) 69 [.ref (f_X2_lawOf (nI u) + 3), .ref 82] (mkH E ra) Q = Q none (mkH E (fR (uI ra (25 + 5 * u) 1 (nI s)) (26 + 5 * u) s (ra 83))) := by
  rcases (by omega : u = 0 ∨ u = 1) with rfl | rfl
  · exact x_cpy (d := d) (a := 25) (ca := 50) s_E (oR rfl) (oR rfl) hb hb.2.1 (by decide) (by decide) (by decide)
  · exact x_cpy (d := d) (a := 30) (ca := 50) s_E (oR rfl) (oR rfl) hb hb.2.1 (by decide) (by decide) (by decide)
theorem xC_st (hX : xC X r) {u n : Nat} {b : Nat → Nat} (hu : u < 2) (h1 : tIC b n u r') (e : ∀ a k, rXC a → a ≠ 25 + 5 * u → a ≠ 26 + 5 * u → r' a k = r a k) : xC (X.st u b n) r' := by
  refine ⟨fun v hv => ?_, fun v hv => ?_⟩
  · unfold Tx.st
    by_cases q : v = u
    · subst q
      rw [if_pos rfl]
      exact h1
    · rw [if_neg q]
      obtain ⟨h1, h2⟩ := hX.1 v hv
      refine ⟨?_, fun k hk => ?_⟩
      · rw [e _ _ (by unfold rXC; omega) (by omega) (by omega)]; exact h1
      · rw [e _ _ (by unfold rXC; omega) (by omega) (by omega)]; exact h2 k hk
  · rw [e _ _ (by unfold rXC; omega) (by omega) (by omega)]; exact hX.2 v hv
theorem xM_st (xo : xOK X) (hX : xM X r) {u n : Nat} {b : Nat → Nat} (hu : u < 2) (h1 : tIM b n u r') (e : ∀ k, rXM k → k ≠ 90 + u → ¬ (112 + 50 * u ≤ k ∧ k < 162 + 50 * u) → r' 102 k = r 102 k) : xM (X.st u b n) r' := by
  intro v hv
  unfold Tx.st
  by_cases q : v = u
  · subst q
    rw [if_pos rfl]
    exact h1
  · rw [if_neg q]
    obtain ⟨h1, h2⟩ := hX v hv
    have hn := (xo v hv).1
    refine ⟨?_, fun k hk => ?_⟩
    · rw [e _ (by unfold rXM; omega) (by omega) (by omega)]; exact h1
    · rw [e _ (by unfold rXM; omega) (by omega) (by omega)]; exact h2 k hk
theorem xOK_st (xo : xOK X) {u n : Nat} {b : Nat → Nat} (h : tOk b n u) : xOK (X.st u b n) := by
  intro v hv
  unfold Tx.st
  by_cases q : v = u
  · subst q
    rw [if_pos rfl]
    exact h
  · rw [if_neg q]
    exact xo v hv
theorem t_a : ∀ u, u < 2 → ((90 + nI u).toNatClampNeg = 90 + u ∧ ¬ (90 + nI u) < 0) ∧ ∀ k, k < 50 → ((112 + (50 * nI u)) + nI k).toNatClampNeg = 112 + 50 * u + k ∧ ¬ ((112 + (50 * nI u)) + nI k) < 0 := by decide +kernel
theorem t_b : ∀ k, k < 50 → (212 + nI k).toNatClampNeg = 212 + k ∧ ¬ (212 + nI k) < 0 := by decide +kernel
theorem st_text (s_E : oE E) (hI : Inv r) {x : Int32} : stI E d r 111 [.ref 10, .int x] 172 [.ref 101, .int x] := by
  obtain ⟨t, X, ok, xo, hC, hX, hM, hXM, ⟨y1, y2, y3⟩, ⟨n, b, y4⟩, w, y5⟩ := hI.1
  obtain ⟨z1, z2, z3, z4, z5, z6⟩ := id y4
  have pC : ∀ Q, wX (d + 70) 111 [.ref 10, .int x] (mkH E r) Q = wG (d + 69) 111 (4, [.ref 10, .int x, .retAddr 0], [.int (f_X9_within x 0 1)], mkH E r) Q := fun Q => (en_X9_text (d := d + 69) s_E).trans (x_X9_isUse (d := d + 67) s_E)
  have gM : f_X10_in x.toInt64 0 1 = f_X9_within x 0 1 := in_l (a := 0) (b := 1)
  have pM : ∀ ra Q, wX (d + 70) 172 [.ref 101, .int x] (mkH E ra) Q = wG (d + 69) 172 (7, [.ref 101, .int x, .retAddr 0, .retAddr 0, .retAddr 0], [.int (f_X9_within x 0 1)], mkH E ra) Q := fun ra Q => by
    refine (en_X10_text (d := d + 69) s_E).trans ?_
    refine (x_X10_in (d := d + 68) s_E).trans ?_
    rw [gM]
    rfl
  rcases wi_v (x := x) (a := 0) (m := 1) (by decide) (by decide) with h | ⟨u, _, hu, rfl, h⟩
  · have h : f_X9_within x 0 1 = 0 := h
    refine st_e hI (k := 1) (by decide) (fun Q => ?_) (fun Q => ?_)
    · rw [pC, h]
      refine (sg_X9_text_4 (d := d + 69) s_E).trans ?_
      rw [if_pos rfl, er1]
      refine (x_wr (d := d + 67) s_E (by decide)).trans ?_
      exact sg_X9_text_13 (d := d + 69) s_E
    · rw [pM, h]
      refine (sg_X10_text_7 (d := d + 69) s_E).trans ?_
      rw [if_pos rfl]
      refine (x_fin (d := d + 68) (k := 1) s_E (by decide)).trans ?_
      exact sg_X10_text_15 (d := d + 69) s_E
  · have h : f_X9_within (nI u) 0 1 = 1 := h
    have hu2 : u < 2 := by omega
    obtain ⟨ra, s1, m1⟩ := x_faultIn (d := d + 19) (E := E) (x := r 105 0) (y := r 105 1) (z := r 105 2) s_E z3 (fun k hk => ⟨z5 k hk, z2 k hk⟩) z1 hu2
    have ra_o : ∀ a k, a ≠ 9 → a ≠ 81 → a ≠ 82 → a ≠ 83 → ra a k = r a k := fun a k h1 h2 h3 h4 => s1 a k (by unfold rdP; omega)
    let rb : Nat → Nat → Int32 := uI ra 34 1 0
    have rb_o : ∀ a k, a ≠ 9 → a ≠ 81 → a ≠ 82 → a ≠ 83 → (a ≠ 34 ∨ k ≠ 1) → rb a k = r a k := fun a k h1 h2 h3 h4 h5 => by
      show uI ra 34 1 0 a k = _
      rw [uI_o (by omega), ra_o a k h1 h2 h3 h4]
    -- the class, up to its clearing
    have qC : ∀ v, (∀ Q, wX (d + 69) 46 [.ref 81, .int (nI u)] (mkH E r) Q = Q (some (.int v)) (mkH E ra)) → ∀ Q, wX (d + 70) 111 [.ref 10, .int (nI u)] (mkH E r) Q = wG (d + 69) 111 (33, [.ref 10, .int (nI u), .int v], [], mkH E rb) Q := fun v e Q => by
      rw [pC, h]
      refine (sg_X9_text_4 (d := d + 69) s_E).trans ?_
      rw [if_neg (by decide)]
      refine (e _).trans ?_
      refine (sg_X9_text_22 (d := d + 69) s_E).trans ?_
      exact x_X4_clear (d := d + 68) (c_h0 := 50) s_E (oR rfl)
    -- the model, from any state that keeps its cells
    have qM : ∀ rc, (∀ k, rc 102 k = r 102 k) → (∀ k, rc 105 k = r 105 k) → ∃ rd, sE (fun a k => a = 101 ∧ 4 ≤ k ∧ k ≤ 9) (uI rc 102 5 0) rd ∧ match txR b n u (r 105 0) (r 105 1) (r 105 2) with
        | .inl f => rd 101 7 = nI f ∧ f ≤ n ∧ ∃ w, ∀ Q, wX (d + 70) 172 [.ref 101, .int (nI u)] (mkH E rc) Q = wG (d + 69) 172 (39, [.ref 101, .int (nI u), .int (nI n), .retAddr 0, .retAddr 0], [.int w], mkH E rd) Q
        | .inr _ => rd 101 7 = -1 ∧ ∃ w, ∀ Q, wX (d + 70) 172 [.ref 101, .int (nI u)] (mkH E rc) Q = wG (d + 69) 172 (39, [.ref 101, .int (nI u), .int (nI n), .retAddr 0, .retAddr 0], [.int w], mkH E rd) Q := by
      intro rc h1 h2
      obtain ⟨rd, s2, m2⟩ := x_worked (d := d + 19) (E := E) (r := uI rc 102 5 0) (base := 212) (b := b) (n := n) (u := u) (x := r 105 0) (y := r 105 1) (z := r 105 2) s_E (fun k hk => ⟨by rw [uI_o (by omega), h1]; exact z6 k hk, z2 k hk⟩) z1 (by decide) hu2 (by rw [uI_o (by omega), h2]) (by rw [uI_o (by omega), h2]) (by rw [uI_o (by omega), h2])
      have go : ∀ Q, wX (d + 70) 172 [.ref 101, .int (nI u)] (mkH E rc) Q = wX (d + 69) 170 [.ref 101, .int (nI 212), .int (nI n), .int (nI u)] (mkH E (uI rc 102 5 0)) (fun v h' => wG (d + 69) 172 (39, [.ref 101, .int (nI u), .int (nI n), .retAddr 0, .retAddr 0], pv v [], h') Q) := fun Q => by
        rw [pM, h]
        refine (sg_X10_text_7 (d := d + 69) s_E).trans ?_
        rw [if_neg (by decide), h1 5, z4]
        rfl
      refine ⟨rd, s2, ?_⟩
      cases htx : txR b n u (r 105 0) (r 105 1) (r 105 2) with
      | inl f =>
        rw [htx] at m2
        obtain ⟨a1, a2, w, a3⟩ := m2
        exact ⟨a2, a1, w, fun Q => (go Q).trans (a3 _)⟩
      | inr w =>
        rw [htx] at m2
        obtain ⟨a2, a3⟩ := m2
        exact ⟨a2, w.2, fun Q => (go Q).trans (a3 _)⟩
    cases htx : txR b n u (r 105 0) (r 105 1) (r 105 2) with
    | inl f =>
      rw [htx] at m1
      obtain ⟨f1, e1⟩ := m1
      obtain ⟨rd, s2, m2⟩ := qM rb (fun k => rb_o 102 k (by omega) (by omega) (by omega) (by omega) (by omega)) (fun k => rb_o 105 k (by omega) (by omega) (by omega) (by omega) (by omega))
      rw [htx] at m2
      obtain ⟨g1, g2, wv, g3⟩ := m2
      have hpos : ¬ nI f < 0 := nI_pos (by omega)
      have rd_o : ∀ a k, a ≠ 9 → a ≠ 81 → a ≠ 82 → a ≠ 83 → (a ≠ 34 ∨ k ≠ 1) → (a ≠ 102 ∨ k ≠ 5) → a ≠ 101 → rd a k = r a k := fun a k h1 h2 h3 h4 h5 h6 h7 => by
        rw [s2 a k (by omega), uI_o (by omega), rb_o a k h1 h2 h3 h4 h5]
      refine ⟨-10 - nI f, rb, rd, fun Q => ?_, fun Q => ?_, Inv_pl hI ⟨t, X, ok, xo, tC_f hC ok.n (fun a k q => ?_), xC_f hX (fun a k q => ?_), tM_f hM ok.n (fun k q => ?_), xM_f xo hXM (fun k q => ?_), ⟨?_, ?_, ?_⟩, ⟨0, b, ⟨by omega, fun k hk => absurd hk (by omega), ?_, ?_, fun k hk => absurd hk (by omega), fun k hk => absurd hk (by omega)⟩⟩, w, wt_f y5 (fun a k q => ?_) (fun k q => ?_)⟩ (sE_tr (r' := rb) (sE_tr (sE_mo s1 (fun a k q => ?_)) (sE_u (by unfold PL; omega))) (sE_tr (sE_u (by unfold PL; omega)) (sE_mo s2 (fun a k q => ?_))))⟩
      · rw [qC _ e1]
        refine (sg_X9_text_33 (d := d + 69) s_E).trans ?_
        rw [if_neg hpos]
      · rw [g3]
        refine (sg_X10_text_39 (d := d + 69) s_E (fun q => absurd (g1 ▸ q) hpos)).trans ?_
        rw [g1, if_neg hpos]
      · unfold rTC at q; exact rd_o a k (by omega) (by omega) (by omega) (by omega) (by omega) (by omega) (by omega)
      · unfold rXC at q; exact rd_o a k (by omega) (by omega) (by omega) (by omega) (by omega) (by omega) (by omega)
      · unfold rTM at q; exact rd_o 102 k (by omega) (by omega) (by omega) (by omega) (by omega) (by omega) (by omega)
      · unfold rXM at q; exact rd_o 102 k (by omega) (by omega) (by omega) (by omega) (by omega) (by omega) (by omega)
      · rw [rd_o _ _ (by omega) (by omega) (by omega) (by omega) (by omega) (by omega) (by omega), rd_o _ _ (by omega) (by omega) (by omega) (by omega) (by omega) (by omega) (by omega)]; exact y1
      · rw [rd_o _ _ (by omega) (by omega) (by omega) (by omega) (by omega) (by omega) (by omega), rd_o _ _ (by omega) (by omega) (by omega) (by omega) (by omega) (by omega) (by omega)]; exact y2
      · rw [rd_o _ _ (by omega) (by omega) (by omega) (by omega) (by omega) (by omega) (by omega), rd_o _ _ (by omega) (by omega) (by omega) (by omega) (by omega) (by omega) (by omega)]; exact y3
      · rw [s2 _ _ (by omega), uI_o (by omega)]; exact uI_e
      · rw [s2 _ _ (by omega)]; exact uI_e
      · exact rd_o a k (by omega) (by omega) (by omega) (by omega) (by omega) (by omega) (by omega)
      · exact rd_o 102 k (by omega) (by omega) (by omega) (by omega) (by omega) (by omega) (by omega)
      · refine Or.inr (Or.inr (Or.inl ?_))
        unfold rdP at q
        unfold SC
        omega
      · refine Or.inr (Or.inr (Or.inr ?_))
        unfold SM
        omega
    | inr cv =>
      rw [htx] at m1
      obtain ⟨f1, ⟨f2, f3⟩, e1⟩ := m1
      have hn0 : ¬ n = 0 := fun q => by
        subst q
        exact tx_0 htx
      obtain ⟨v0, htx0⟩ := tx_r (x' := 0) (y' := 0) (z' := 0) htx
      have htk : tOk b n u := ⟨z1, z2, Or.inr ⟨_, htx0, f1⟩⟩
      have hcd : cdT b n u = cv.1 := by
        unfold cdT
        rw [if_neg hn0, htx0]
      have hb82 : rK rb 82 50 cv.1.length := ⟨(uI_o (by omega)).trans f2, f1, by decide⟩
      let rc : Nat → Nat → Int32 := fR (uI rb (25 + 5 * u) 1 (nI cv.1.length)) (26 + 5 * u) cv.1.length (rb 83)
      have rc_o : ∀ a k, a ≠ 9 → a ≠ 81 → a ≠ 82 → a ≠ 83 → (a ≠ 34 ∨ k ≠ 1) → a ≠ 25 + 5 * u → a ≠ 26 + 5 * u → rc a k = r a k := fun a k h1 h2 h3 h4 h5 h6 h7 => by
        show fR _ _ _ _ a k = _
        rw [fR_o h7, uI_o (by omega), rb_o a k h1 h2 h3 h4 h5]
      obtain ⟨rd, s2, m2⟩ := qM rc (fun k => rc_o 102 k (by omega) (by omega) (by omega) (by omega) (by omega) (by omega) (by omega)) (fun k => rc_o 105 k (by omega) (by omega) (by omega) (by omega) (by omega) (by omega) (by omega))
      rw [htx] at m2
      obtain ⟨g1, wv, g3⟩ := m2
      let re : Nat → Nat → Int32 := uI rd 102 (90 + u) (nI n)
      obtain ⟨⟨ta1, ta2⟩, ta3⟩ := t_a u hu2
      have rd_o : ∀ a k, a ≠ 9 → a ≠ 81 → a ≠ 82 → a ≠ 83 → (a ≠ 34 ∨ k ≠ 1) → a ≠ 25 + 5 * u → a ≠ 26 + 5 * u → (a ≠ 102 ∨ k ≠ 5) → a ≠ 101 → rd a k = r a k := fun a k h1 h2 h3 h4 h5 h6 h7 h8 h9 => by
        rw [s2 a k (by omega), uI_o (by omega), rc_o a k h1 h2 h3 h4 h5 h6 h7]
      have lp : ∀ m i rr, i + m = n → sE (fun a k => a = 102 ∧ 112 + 50 * u ≤ k ∧ k < 162 + 50 * u) re rr → (∀ k, k < i → rr 102 (112 + 50 * u + k) = nI (b k)) → ∃ rs, sE (fun a k => a = 102 ∧ 112 + 50 * u ≤ k ∧ k < 162 + 50 * u) re rs ∧ (∀ k, k < n → rs 102 (112 + 50 * u + k) = nI (b k)) ∧ ∀ Q, wG (d + 69) 172 (68, [.ref 101, .int (nI u), .int (nI n), .int wv, .int (nI i)], [], mkH E rr) Q = Q (some (.int 1)) (mkH E rs) := by
        intro m
        induction m with
        | zero =>
          intro i rr hi h1 h2
          obtain rfl : i = n := by omega
          refine ⟨rr, h1, h2, fun Q => ?_⟩
          refine (sg_X10_text_68 (d := d + 69) s_E (fun q => absurd q (nI_nlt (Nat.le_refl _) (by omega))) (fun q => absurd q (nI_nlt (Nat.le_refl _) (by omega)))).trans ?_
          rw [if_neg (nI_nlt (Nat.le_refl _) (by omega))]
        | succ m ih =>
          intro i rr hi h1 h2
          obtain ⟨b1, b2⟩ := t_b i (by omega)
          obtain ⟨c1, c2⟩ := ta3 i (by omega)
          have ev : rr 102 (212 + i) = nI (b i) := by
            rw [h1 102 (212 + i) (by omega)]
            show uI rd 102 _ _ 102 _ = _
            rw [uI_o (by omega), rd_o _ _ (by omega) (by omega) (by omega) (by omega) (by omega) (by omega) (by omega) (by omega) (by omega)]
            exact z6 i (by omega)
          obtain ⟨rs, g4, g5, g6⟩ := ih (i + 1) (uI rr 102 (112 + 50 * u + i) (nI (b i))) (by omega) (sE_tr h1 (sE_u ⟨rfl, by omega, by omega⟩)) (fun k hk => by
            by_cases q : k = i
            · rw [q, uI_e]
            · rw [uI_o (by omega)]; exact h2 k (by omega))
          refine ⟨rs, g4, g5, fun Q => ?_⟩
          refine (sg_X10_text_68 (d := d + 69) s_E (fun _ => ⟨b2, by omega⟩) (fun _ => ⟨c2, by omega⟩)).trans ?_
          rw [if_pos (nI_lt (by omega) (by omega)), b1, c1, ev, ← nI_succ]
          exact g6 Q
      obtain ⟨rs, l1, l2, l3⟩ := lp n 0 re (by omega) sE_rf (fun k hk => absurd hk (by omega))
      have rs_o : ∀ a k, a ≠ 9 → a ≠ 81 → a ≠ 82 → a ≠ 83 → (a ≠ 34 ∨ k ≠ 1) → a ≠ 25 + 5 * u → a ≠ 26 + 5 * u → (a ≠ 102 ∨ (k ≠ 5 ∧ k ≠ 90 + u ∧ ¬ (112 + 50 * u ≤ k ∧ k < 162 + 50 * u))) → a ≠ 101 → rs a k = r a k := fun a k h1 h2 h3 h4 h5 h6 h7 h8 h9 => by
        rw [l1 a k (by omega)]
        show uI rd 102 _ _ a k = _
        rw [uI_o (by omega), rd_o a k h1 h2 h3 h4 h5 h6 h7 (by omega) h9]
      have rs_c : ∀ a k, a ≠ 102 → a ≠ 101 → rs a k = rc a k := fun a k h1 h2 => by
        rw [l1 a k (by omega)]
        show uI rd 102 _ _ a k = _
        rw [uI_o (by omega), s2 a k (by omega), uI_o (by omega)]
      have hng : (-1 : Int32) < 0 := by decide
      refine ⟨1, rc, rs, fun Q => ?_, fun Q => ?_, Inv_pl hI ⟨t, X.st u b n, ok, xOK_st xo htk, tC_f hC ok.n (fun a k q => ?_), xC_st hX hu2 ⟨?_, fun k hk => ?_⟩ (fun a k q q1 q2 => ?_), tM_f hM ok.n (fun k q => ?_), xM_st xo hXM hu2 ⟨?_, l2⟩ (fun k q q1 q2 => ?_), ⟨?_, ?_, ?_⟩, ⟨0, b, ⟨by omega, fun k hk => absurd hk (by omega), ?_, ?_, fun k hk => absurd hk (by omega), fun k hk => absurd hk (by omega)⟩⟩, w, wt_f y5 (fun a k q => ?_) (fun k q => ?_)⟩ (fun a k q => ?_)⟩
      · rw [qC _ e1]
        refine (sg_X9_text_33 (d := d + 69) s_E).trans ?_
        rw [if_pos hng]
        refine (x_X2_lawOf (d := d + 68) s_E).trans ?_
        refine (sg_X9_text_50 (d := d + 69) s_E oLw_of).trans ?_
        refine (txt_C (d := d + 65) s_E hu2 hb82).trans ?_
        exact sg_X9_text_63 (d := d + 69) s_E
      · rw [g3]
        refine (sg_X10_text_39 (d := d + 69) s_E (fun _ => ⟨ta2, by omega⟩)).trans ?_
        rw [g1, if_pos hng, ta1]
        exact l3 Q
      · unfold rTC at q; exact rs_o a k (by omega) (by omega) (by omega) (by omega) (by omega) (by omega) (by omega) (by omega) (by omega)
      · rw [rs_c _ _ (by omega) (by omega), hcd]
        show fR _ _ _ _ (25 + 5 * u) 1 = _
        rw [fR_o (by omega), uI_e]
      · rw [rs_c _ _ (by omega) (by omega)]
        show fR _ _ _ _ (26 + 5 * u) k = _
        have hk2 : k < cv.1.length := by rw [← hcd]; exact hk
        rw [fR_at hk2]
        show uI ra 34 1 0 83 k = _
        rw [uI_o (by omega), f3 k hk2]
        congr 1
        exact hcd.symm
      · unfold rXC at q; exact rs_o a k (by omega) (by omega) (by omega) (by omega) (by omega) (by omega) (by omega) (by omega) (by omega)
      · unfold rTM at q; exact rs_o 102 k (by omega) (by omega) (by omega) (by omega) (by omega) (by omega) (by omega) (by omega) (by omega)
      · rw [l1 _ _ (by omega)]; exact uI_e
      · unfold rXM at q; exact rs_o 102 k (by omega) (by omega) (by omega) (by omega) (by omega) (by omega) (by omega) (by omega) (by omega)
      · rw [rs_o _ _ (by omega) (by omega) (by omega) (by omega) (by omega) (by omega) (by omega) (by omega) (by omega), rs_o _ _ (by omega) (by omega) (by omega) (by omega) (by omega) (by omega) (by omega) (by omega) (by omega)]; exact y1
      · rw [rs_o _ _ (by omega) (by omega) (by omega) (by omega) (by omega) (by omega) (by omega) (by omega) (by omega), rs_o _ _ (by omega) (by omega) (by omega) (by omega) (by omega) (by omega) (by omega) (by omega) (by omega)]; exact y2
      · rw [rs_o _ _ (by omega) (by omega) (by omega) (by omega) (by omega) (by omega) (by omega) (by omega) (by omega), rs_o _ _ (by omega) (by omega) (by omega) (by omega) (by omega) (by omega) (by omega) (by omega) (by omega)]; exact y3
      · rw [rs_c _ _ (by omega) (by omega)]
        show fR _ _ _ _ 34 1 = _
        rw [fR_o (by omega), uI_o (by omega)]
        exact uI_e
      · rw [l1 _ _ (by omega)]
        show uI rd 102 _ _ 102 5 = _
        rw [uI_o (by omega), s2 _ _ (by omega)]
        exact uI_e
      · exact rs_o a k (by omega) (by omega) (by omega) (by omega) (by omega) (by omega) (by omega) (by omega) (by omega)
      · exact rs_o 102 k (by omega) (by omega) (by omega) (by omega) (by omega) (by omega) (by omega) (by omega) (by omega)
      · by_cases h101 : a = 101
        · subst h101
          have q5 : ¬ (4 ≤ k ∧ k ≤ 9) := fun w => q (Or.inr (Or.inr (Or.inr (by unfold SM; omega))))
          rw [l1 _ _ (by omega)]
          show uI rd 102 _ _ 101 k = _
          rw [uI_o (by omega), s2 _ _ (by omega), uI_o (by omega), rc_o _ _ (by omega) (by omega) (by omega) (by omega) (by omega) (by omega) (by omega)]
        · by_cases h81 : a = 9 ∨ a = 81 ∨ a = 82 ∨ a = 83
          · rw [rs_c _ _ (by omega) h101]
            show fR _ _ _ _ a k = _
            rw [fR_o (by omega), uI_o (by omega)]
            show uI ra 34 1 0 a k = _
            rw [uI_o (by omega)]
            refine s1 a k (fun w => q (Or.inr (Or.inr (Or.inl ?_))))
            unfold rdP at w
            unfold SC
            omega
          · have q1 : ¬ (11 ≤ a ∧ a ≤ 37) := fun w => q (Or.inl w)
            have q2 : a ≠ 102 := fun w => q (Or.inr (Or.inl w))
            exact rs_o a k (by omega) (by omega) (by omega) (by omega) (by omega) (by omega) (by omega) (by omega) h101
end TXT
