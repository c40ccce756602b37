/-! SHEETS: move -/
section MOV
variable {d : Nat} {E : pEv} {r r' r1 r2 : Nat → Nat → Int32} {t t' : Th} {X : Tx} {Q : Option Value → pH → Prop}
theorem subL {z a b : Nat} (hz : z ≤ 40) (ha : a < 2 ^ 31) (hb : b < 2 ^ 31) : (nI z - nI a < nI b) ↔ z < a + b := by
  rw [Int32.lt_iff_toInt_lt, Int32.toInt_sub, nI_toInt ha, nI_toInt hb, nI_toInt (by omega)]
  have e : ((z : Int) - (a : Int)).bmod (2 ^ 32) = (z : Int) - (a : Int) := Int.bmod_eq_of_le_mul_two (by omega) (by omega)
  rw [e]
  omega
theorem fi5 : f_X10_finds 5 = er 5 := fiN 5 (by decide)
theorem gi5 : g_X10_finds r 5 = eM r 5 := giN (k := 5) (by decide)
theorem spz {a c z : Nat} (hz : z ≤ 40) (h : r a 1 = nI z) (i n : Int32) : (f_X4_spans r a c i n = 0 ∧ (n < 0 ∨ i < 0 ∨ ∃ i' n', i' < 2 ^ 31 ∧ n' < 2 ^ 31 ∧ i = nI i' ∧ n = nI n' ∧ z < i' + n')) ∨ ∃ i' n', i = nI i' ∧ n = nI n' ∧ i' + n' ≤ z ∧ f_X4_spans r a c i n = 1 := by
  unfold f_X4_spans
  rw [h]
  by_cases h1 : n < 0
  · exact Or.inl ⟨by rw [if_pos h1], Or.inl h1⟩
  · by_cases h2 : i < 0
    · exact Or.inl ⟨by rw [if_neg h1, if_pos h2], Or.inr (Or.inl h2)⟩
    · obtain ⟨n', hn, rfl⟩ := nI_of h1
      obtain ⟨i', hi, rfl⟩ := nI_of h2
      rw [if_neg h1, if_neg h2]
      by_cases h3 : z < n' + i'
      · exact Or.inl ⟨by rw [if_pos ((subL hz hn hi).mpr h3)], Or.inr (Or.inr ⟨i', n', hi, hn, rfl, rfl, by omega⟩)⟩
      · exact Or.inr ⟨i', n', rfl, rfl, by omega, by rw [if_neg (fun w => h3 ((subL hz hn hi).mp w))]⟩
theorem hdz {a z : Nat} (hz : z ≤ 40) (h : r a 1 = nI z) {i n : Int32} (q : ¬ f_X4_spans r a 40 i n = 0) : ¬ f_X4_holds r a 40 i n = 0 := by
  have e : f_X4_holds r a 40 i n = 1 := by
    unfold f_X4_holds
    rw [if_neg q, h]
    exact if_neg (nI_nlt hz (by omega))
  rw [e]
  decide
theorem ix41 : ∀ s, s < 4 → ∀ i, i < 41 → ∀ k, k < 40 → i + k < 40 → ((40 * nI s + nI i) + nI k).toNatClampNeg = 40 * s + i + k ∧ ¬ ((40 * nI s + nI i) + nI k) < 0 := by decide +kernel
theorem st_move (s_E : oE E) (hI : Inv r) {x i y j n : Int32} : stI E d r 127 [.ref 10, .int x, .int i, .int y, .int j, .int n] 236 [.ref 101, .int x, .int i, .int y, .int j, .int n] := by
  have hh := hI.2.2.2.2.1
  have gC : ∀ x, f_X9_isSheet x = f_X9_within x 0 3 := fun _ => rfl
  have gM : ∀ x, f_X10_isSheet x = f_X9_within x 0 3 := fun x => in_l (a := 0) (b := 3)
  have en : ∀ ra Q, wX (d + 70) 236 [.ref 101, .int x, .int i, .int y, .int j, .int n] (mkH E ra) Q = wG (d + 69) 236 (4, [.ref 101, .int x, .int i, .int y, .int j, .int n, .retAddr 0], [.int (f_X9_within x 0 3)], mkH E ra) Q := fun ra Q => by
    refine (en_X10_move (d := d + 69) s_E).trans ?_
    refine (x_X10_isSheet (d := d + 67) s_E).trans ?_
    rw [gM]
    rfl
  have m1 : ∀ ra Q, wX (d + 69) 153 [.ref 101, .int 1] (mkH E ra) (fun v h' => wG (d + 69) 236 (19, [.ref 101, .int x, .int i, .int y, .int j, .int n, .retAddr 0], pv v [], h') Q) = Q (some (.int (er 1))) (mkH E (eM ra 1)) := fun ra Q => by
    refine (x_fin (d := d + 68) (k := 1) s_E (by decide)).trans ?_
    exact sg_X10_move_19 (d := d + 69) s_E
  have m2 : ∀ ra Q, wX (d + 69) 153 [.ref 101, .int 2] (mkH E ra) (fun v h' => wG (d + 69) 236 (43, [.ref 101, .int x, .int i, .int y, .int j, .int n, .retAddr 0], pv v [], h') Q) = Q (some (.int (er 2))) (mkH E (eM ra 2)) := fun ra Q => by
    refine (x_fin (d := d + 68) (k := 2) s_E (by decide)).trans ?_
    exact sg_X10_move_43 (d := d + 69) s_E
  have m5 : ∀ ra Q, wX (d + 69) 153 [.ref 101, .int 5] (mkH E ra) (fun v h' => wG (d + 69) 236 (64, [.ref 101, .int x, .int i, .int y, .int j, .int n, .retAddr 0], pv v [], h') Q) = Q (some (.int (er 5))) (mkH E (eM ra 5)) := fun ra Q => by
    refine (x_fin (d := d + 68) (k := 5) s_E (by decide)).trans ?_
    exact sg_X10_move_64 (d := d + 69) s_E
  have m6 : ∀ ra Q, wX (d + 69) 153 [.ref 101, .int 1] (mkH E ra) (fun v h' => wG (d + 69) 236 (111, [.ref 101, .int x, .int i, .int y, .int j, .int n, .retAddr 0], pv v [], h') Q) = Q (some (.int (er 1))) (mkH E (eM ra 1)) := fun ra Q => by
    refine (x_fin (d := d + 68) (k := 1) s_E (by decide)).trans ?_
    exact sg_X10_move_111 (d := d + 69) s_E
  have n1 : ¬ (1 : Int32) = 0 := by decide
  -- the class
  have key : ∀ s zs bs u zu bu, x = nI s → y = nI u → s < 4 → u < 4 → shR s zs bs r → shR u zu bu r → ¬ f_X4_spans r (f_X9_sheetAt x + 1) 40 i n = 0 → ∃ i' n', i = nI i' ∧ n = nI n' ∧ i' + n' ≤ zs := by
    intro s zs bs u zu bu hx hy hs hu h1 h2 q
    rcases spz (r := r) (a := f_X9_sheetAt x + 1) (c := 40) h1.1 (by rw [hx, sAt s hs, show 88 + 3 * s + 1 = 89 + 3 * s by omega]; exact h1.2.2.2.2.1) i n with ⟨w, _⟩ | ⟨i', n', a1, a2, a3, _⟩
    · exact absurd w q
    · exact ⟨i', n', a1, a2, a3⟩
  have pC : ∀ Q, wX (d + 70) 127 [.ref 10, .int x, .int i, .int y, .int j, .int n] (mkH E r) Q = Q (some (.int (f_X9_move r x i y j n))) (mkH E (g_X9_move r x i y j n)) := by
    have bd : ¬ f_X9_isSheet x = 0 → ¬ f_X9_isSheet y = 0 → ¬ f_X4_spans r (f_X9_sheetAt x + 1) 40 i n = 0 → ¬ f_X4_spans r (f_X9_sheetAt y + 1) 40 j n = 0 → ∃ i' j' n', i = nI i' ∧ j = nI j' ∧ n = nI n' ∧ i' + n' ≤ 40 ∧ j' + n' ≤ 40 := by
      intro q1 q2 q3 q4
      rcases eSh hh x with ⟨h, _⟩ | ⟨s, zs, bs, hs, hx, _, h1, _⟩
      · exact absurd h q1
      rcases eSh hh y with ⟨h, _⟩ | ⟨u, zu, bu, hu, hy, _, h2, _⟩
      · exact absurd h q2
      rcases spz (r := r) (a := f_X9_sheetAt x + 1) (c := 40) h1.1 (by rw [hx, sAt s hs, show 88 + 3 * s + 1 = 89 + 3 * s by omega]; exact h1.2.2.2.2.1) i n with ⟨w, _⟩ | ⟨i', n', a1, a2, a3, _⟩
      · exact absurd w q3
      rcases spz (r := r) (a := f_X9_sheetAt y + 1) (c := 40) h2.1 (by rw [hy, sAt u hu, show 88 + 3 * u + 1 = 89 + 3 * u by omega]; exact h2.2.2.2.2.1) j n with ⟨w, _⟩ | ⟨j', n'', b1, b2, b3, _⟩
      · exact absurd w q4
      have z1 := h1.1
      have z2 := h2.1
      have en : n' = n'' := (nI_eq (by omega) (by omega)).mp (a2.symm.trans b2)
      exact ⟨i', j', n', a1, b1, a2, by omega, by omega⟩
    intro Q
    refine x_X9_move (d := d + 66) s_E (fun _ _ => by decide) (fun _ _ _ => by decide) (fun _ _ _ _ => by decide) (fun _ _ _ _ _ => by decide) (fun _ _ _ _ _ _ _ => by decide) (fun _ _ _ _ _ _ _ _ => by decide) (fun q1 q2 _ _ _ q3 q4 _ _ => ?_) (fun q1 q2 _ _ _ q3 q4 _ _ => ?_) (fun q1 q2 _ _ _ q3 q4 _ _ => ?_) (fun q1 q2 _ _ _ q3 q4 _ _ => ?_) (fun q1 q2 _ _ _ q3 q4 _ _ => ?_) (fun _ _ _ _ _ _ => by decide)
    all_goals obtain ⟨i', j', n', e1, e2, e3, e4, e5⟩ := bd q1 q2 q3 q4
    · rw [e1]; exact nI_pos (by omega)
    · rw [e2]; exact nI_pos (by omega)
    · rw [e3]; exact nI_pos (by omega)
    · rw [e1, e3, nI_clamp (by omega), nI_clamp (by omega)]; exact e4
    · rw [e2, e3, nI_clamp (by omega), nI_clamp (by omega)]; exact e5
  rcases eSh hh x with ⟨h, _⟩ | ⟨s, zs, bs, hs, hx, h, hsh, _⟩
  · refine st_e hI (k := 1) (by decide) (fun Q => ?_) (fun Q => ?_)
    · rw [pC]
      unfold f_X9_move g_X9_move
      rw [gC, h, i00, i00, er1, wr_f (by decide), wr_g (by decide)]
    · rw [en, h]
      refine (sg_X10_move_4 (d := d + 69) s_E).trans ?_
      rw [if_pos rfl]; exact m1 _ Q
  have e2 : ∀ ra Q, wX (d + 70) 236 [.ref 101, .int x, .int i, .int y, .int j, .int n] (mkH E ra) Q = wG (d + 69) 236 (11, [.ref 101, .int x, .int i, .int y, .int j, .int n, .retAddr 0], [.int (f_X9_within y 0 3)], mkH E ra) Q := fun ra Q => by
    rw [en, h]
    refine (sg_X10_move_4 (d := d + 69) s_E).trans ?_
    rw [if_neg n1]
    refine (x_X10_isSheet (d := d + 67) s_E).trans ?_
    rw [gM]
    rfl
  have xs : ¬ x < 0 ∧ x.toNatClampNeg < 4 := by rw [hx]; exact ix_n hs (by decide)
  have yb : ¬ f_X9_within y 0 3 = 0 → ¬ y < 0 ∧ y.toNatClampNeg < 4 := fun q => by
    rcases eSh hh y with ⟨h, _⟩ | ⟨u, zu, bu, hu, hy, _, _, _⟩
    · exact absurd h q
    · rw [hy]; exact ix_n hu (by decide)
  have e3 : ∀ ra Q, wX (d + 70) 236 [.ref 101, .int x, .int i, .int y, .int j, .int n] (mkH E ra) Q = _ := fun ra Q => (e2 ra Q).trans (sg_X10_move_11 (d := d + 69) s_E (fun _ => xs) (fun q _ => yb q) (fun _ _ _ => xs) (fun q _ _ => yb q) (fun _ _ _ _ _ _ _ => xs) (fun q _ _ _ _ _ _ _ => yb q))
  rcases eSh hh y with ⟨h', _⟩ | ⟨u, zu, bu, hu, hy, h', hsu, _⟩
  · refine st_e hI (k := 1) (by decide) (fun Q => ?_) (fun Q => ?_)
    · rw [pC]
      unfold f_X9_move g_X9_move
      rw [gC, h, gC, h', i10, i10, i00, i00, er1, wr_f (by decide), wr_g (by decide)]
    · rw [e3, h', if_pos rfl]; exact m1 _ Q
  have ax : f_X9_sheetAt x = 88 + 3 * s := by rw [hx]; exact sAt s hs
  have ay : f_X9_sheetAt y = 88 + 3 * u := by rw [hy]; exact sAt u hu
  have cx : x.toNatClampNeg = s := by rw [hx]; exact nI_clamp (by omega)
  have cy : y.toNatClampNeg = u := by rw [hy]; exact nI_clamp (by omega)
  obtain ⟨a1, a2, a3, a4, a5, a6, a7⟩ := id hsh
  obtain ⟨b1, b2, b3, b4, b5, b6, b7⟩ := id hsu
  have r8 : ∀ k, 112 ≤ k → ∀ q l, eC r q k l = r k l := fun k hk q l => uI_o (by omega)
  by_cases z1 : nI bs = 0
  · refine st_e hI (k := 2) (by decide) (fun Q => ?_) (fun Q => ?_)
    · rw [pC]
      unfold f_X9_move g_X9_move
      rw [gC, h, gC, h', ax, a3, i10, i10, i10, i10, if_pos z1, if_pos z1, er2, wr_f (by decide), wr_g (by decide)]
    · rw [e3, h', if_neg n1, cx, r8 _ (by omega), a4, if_pos z1]; exact m2 _ Q
  by_cases z2 : nI bu = 0
  · refine st_e hI (k := 2) (by decide) (fun Q => ?_) (fun Q => ?_)
    · rw [pC]
      unfold f_X9_move g_X9_move
      rw [gC, h, gC, h', ax, a3, ay, b3, i10, i10, i10, i10, if_neg z1, if_neg z1, if_pos z2, if_pos z2, er2, wr_f (by decide), wr_g (by decide)]
    · rw [e3, h', if_neg n1, cx, cy, r8 _ (by omega), r8 _ (by omega), a4, b4, if_neg z1, if_pos z2]; exact m2 _ Q
  by_cases z3 : ¬ nI bs = nI bu
  · refine st_e hI (k := 5) (by decide) (fun Q => ?_) (fun Q => ?_)
    · rw [pC]
      unfold f_X9_move g_X9_move
      rw [gC, h, gC, h', ax, a3, ay, b3, i10, i10, i10, i10, if_neg z1, if_neg z1, if_neg z2, if_neg z2, if_neg z3, if_neg z3, er5, wr_f (by decide), wr_g (by decide)]
    · rw [e3, h', if_neg n1, cx, cy, r8 _ (by omega), r8 _ (by omega), a4, b4, if_neg z1, if_neg z2, if_neg z3]; exact m5 _ Q
  have z3 := Decidable.not_not.mp z3
  have fc : f_X9_move r x i y j n = if f_X4_spans r (89 + 3 * s) 40 i n = 0 then er 1 else if f_X4_spans r (89 + 3 * u) 40 j n = 0 then er 1 else n := by
    unfold f_X9_move
    rw [gC, h, gC, h', ax, a3, ay, b3, i10, i10, if_neg z1, if_neg z2, if_pos z3, er1, wr_f (by decide), show 88 + 3 * s + 1 = 89 + 3 * s by omega, show 88 + 3 * u + 1 = 89 + 3 * u by omega]
  have gc : g_X9_move r x i y j n = if f_X4_spans r (89 + 3 * s) 40 i n = 0 then eC r 1 else if f_X4_spans r (89 + 3 * u) 40 j n = 0 then eC r 1 else g_X4_overwrite r (89 + 3 * u) 40 j (89 + 3 * s) 40 i n := by
    unfold g_X9_move
    rw [gC, h, gC, h', ax, a3, ay, b3, i10, i10, if_neg z1, if_neg z2, if_pos z3, er1, wr_g (by decide), show 88 + 3 * s + 1 = 89 + 3 * s by omega, show 88 + 3 * u + 1 = 89 + 3 * u by omega]
  -- the model, behind its guards
  have e4 : ∀ ra : Nat → Nat → Int32, (∀ k l, k = 112 ∨ k = 113 → ra k l = r k l) → ∀ Q, wX (d + 70) 236 [.ref 101, .int x, .int i, .int y, .int j, .int n] (mkH E ra) Q = if n < 0 then Q (some (.int (er 1))) (mkH E (eM ra 1)) else if i < 0 then Q (some (.int (er 1))) (mkH E (eM ra 1)) else if j < 0 then Q (some (.int (er 1))) (mkH E (eM ra 1)) else if nI zs - i < n then Q (some (.int (er 1))) (mkH E (eM ra 1)) else if nI zu - j < n then Q (some (.int (er 1))) (mkH E (eM ra 1)) else wG (d + 69) 236 (115, [.ref 101, .int x, .int i, .int y, .int j, .int n, .int 0], [], mkH E ra) Q := fun ra hra Q => by
    rw [e3, h', if_neg n1, cx, cy, hra 112 s (by omega), hra 112 u (by omega), hra 113 s (by omega), hra 113 u (by omega), a4, b4, a6, b6, if_neg z1, if_neg z2, if_pos z3, m6]
  have ebad : (n < 0 ∨ i < 0 ∨ j < 0 ∨ nI zs - i < n ∨ nI zu - j < n) → ∀ Q, wX (d + 70) 236 [.ref 101, .int x, .int i, .int y, .int j, .int n] (mkH E (eC r 1)) Q = Q (some (.int (er 1))) (mkH E (eM (eC r 1) 1)) := fun q Q => by
    rw [e4 (eC r 1) (fun k l hk => r8 k (by omega) 1 l)]
    by_cases c1 : n < 0
    · rw [if_pos c1]
    · rw [if_neg c1]
      by_cases c2 : i < 0
      · rw [if_pos c2]
      · rw [if_neg c2]
        by_cases c3 : j < 0
        · rw [if_pos c3]
        · rw [if_neg c3]
          by_cases c4 : nI zs - i < n
          · rw [if_pos c4]
          · rw [if_neg c4]
            by_cases c5 : nI zu - j < n
            · rw [if_pos c5]
            · exact absurd q (fun q => q.elim c1 (fun q => q.elim c2 (fun q => q.elim c3 (fun q => q.elim c4 c5))))
  rcases spz (r := r) (a := 89 + 3 * s) (c := 40) a1 a5 i n with ⟨w, why⟩ | ⟨i', n', ei, en', ein, w⟩
  · refine st_e hI (k := 1) (by decide) (fun Q => ?_) (ebad ?_)
    · rw [pC, fc, gc, if_pos w, if_pos w]
    · rcases why with q | q | ⟨i', n', hi, hn, rfl, rfl, q⟩
      · exact Or.inl q
      · exact Or.inr (Or.inl q)
      · exact Or.inr (Or.inr (Or.inr (Or.inl ((subL a1 hi hn).mpr q))))
  rcases spz (r := r) (a := 89 + 3 * u) (c := 40) b1 b5 j n with ⟨w', why⟩ | ⟨j', n'', ej, en'', ejn, w'⟩
  · refine st_e hI (k := 1) (by decide) (fun Q => ?_) (ebad ?_)
    · have nw : ¬ f_X4_spans r (89 + 3 * s) 40 i n = 0 := by rw [w]; decide
      rw [pC, fc, gc, if_neg nw, if_neg nw, if_pos w', if_pos w']
    · rcases why with q | q | ⟨i', n', hi, hn, e1, e2, q⟩
      · exact Or.inl q
      · exact Or.inr (Or.inr (Or.inl q))
      · rw [e1, e2]
        exact Or.inr (Or.inr (Or.inr (Or.inr ((subL b1 hi hn).mpr q))))
  obtain rfl : n' = n'' := (nI_eq (by omega) (by omega)).mp (en'.symm.trans en'')
  have nw : ¬ f_X4_spans r (89 + 3 * s) 40 i n = 0 := by rw [w]; decide
  have nw' : ¬ f_X4_spans r (89 + 3 * u) 40 j n = 0 := by rw [w']; decide
  subst ei ej en'
  let ra : Nat → Nat → Int32 := g_X4_overwrite r (89 + 3 * u) 40 (nI j') (89 + 3 * s) 40 (nI i') (nI n')
  have ov : ∀ a k, ra a k = if a = 90 + 3 * u ∧ j' ≤ k ∧ k < j' + n' then r (90 + 3 * s) (i' + (k - j')) else r a k := fun a k => by
    show g_X4_overwrite r (89 + 3 * u) 40 (nI j') (89 + 3 * s) 40 (nI i') (nI n') a k = _
    unfold g_X4_overwrite
    rw [if_neg (hdz a1 a5 nw), if_neg (hdz b1 b5 nw'), nI_clamp (by omega), nI_clamp (by omega), nI_clamp (by omega), show 89 + 3 * u + 1 = 90 + 3 * u by omega, show 89 + 3 * s + 1 = 90 + 3 * s by omega, vup_at]
    unfold va_cpy
    by_cases q : a = 90 + 3 * u
    · rw [if_pos q]
      by_cases q2 : j' ≤ k ∧ k < j' + n'
      · rw [if_pos q2, if_pos ⟨q, q2⟩]
      · rw [if_neg q2, if_neg (fun w => q2 w.2), q]
    · rw [if_neg q, if_neg (fun w => q w.1)]
  have ra_o : ∀ a k, a ≠ 90 + 3 * u → ra a k = r a k := fun a k h => by rw [ov, if_neg (fun w => h w.1)]
  let rb : Nat → Nat → Int32 := fO ra 115 0 n' (fun q => ra 114 (40 * s + i' + q))
  let rd : Nat → Nat → Int32 := fO rb 114 (40 * u + j') n' (fun q => rb 115 q)
  have lp1 : ∀ m k, k + m = n' → ∀ Q, wG (d + 69) 236 (115, [.ref 101, .int x, .int (nI i'), .int y, .int (nI j'), .int (nI n'), .int (nI k)], [], mkH E (fO ra 115 0 k (fun q => ra 114 (40 * s + i' + q)))) Q = wG (d + 69) 236 (152, [.ref 101, .int x, .int (nI i'), .int y, .int (nI j'), .int (nI n'), .int 0], [], mkH E rb) Q := by
    intro m
    induction m with
    | zero =>
      intro k hk Q
      obtain rfl : k = n' := by omega
      refine (sg_X10_move_115 (d := d + 69) s_E (fun q => absurd q (nI_nlt (Nat.le_refl _) (by omega))) (fun q => absurd q (nI_nlt (Nat.le_refl _) (by omega)))).trans ?_
      rw [if_neg (nI_nlt (Nat.le_refl _) (by omega))]
    | succ m ih =>
      intro k hk Q
      obtain ⟨x1, x2⟩ := ix41 s hs i' (by omega) k (by omega) (by omega)
      refine (sg_X10_move_115 (d := d + 69) s_E (fun _ => by rw [hx]; exact ⟨x2, by omega⟩) (fun _ => ix_n (show k < 40 by omega) (by decide))).trans ?_
      have st := fO_s (r := ra) (a := 115) (b := 0) (s := k) (g := fun q => ra 114 (40 * s + i' + q))
      rw [Nat.zero_add] at st
      rw [if_pos (nI_lt (by omega) (by omega)), hx, x1, nI_clamp (by omega), fO_o (x := 114) (by omega), st, ← nI_succ, ← hx]
      exact ih (k + 1) (by omega) Q
  have lp2 : ∀ m k, k + m = n' → ∀ Q, wG (d + 69) 236 (152, [.ref 101, .int x, .int (nI i'), .int y, .int (nI j'), .int (nI n'), .int (nI k)], [], mkH E (fO rb 114 (40 * u + j') k (fun q => rb 115 q))) Q = Q (some (.int (nI n'))) (mkH E rd) := by
    intro m
    induction m with
    | zero =>
      intro k hk Q
      obtain rfl : k = n' := by omega
      refine (sg_X10_move_152 (d := d + 69) s_E (fun q => absurd q (nI_nlt (Nat.le_refl _) (by omega))) (fun q => absurd q (nI_nlt (Nat.le_refl _) (by omega)))).trans ?_
      rw [if_neg (nI_nlt (Nat.le_refl _) (by omega))]
    | succ m ih =>
      intro k hk Q
      obtain ⟨x1, x2⟩ := ix41 u hu j' (by omega) k (by omega) (by omega)
      refine (sg_X10_move_152 (d := d + 69) s_E (fun _ => ix_n (show k < 40 by omega) (by decide)) (fun _ => by rw [hy]; exact ⟨x2, by omega⟩)).trans ?_
      have st := fO_s (r := rb) (a := 114) (b := 40 * u + j') (s := k) (g := fun q => rb 115 q)
      rw [if_pos (nI_lt (by omega) (by omega)), hy, x1, nI_clamp (by omega), fO_o (x := 115) (by omega), st, ← nI_succ, ← hy]
      exact ih (k + 1) (by omega) Q
  have rd_o : ∀ a k, a ≠ 90 + 3 * u → a ≠ 115 → (a ≠ 114 ∨ ¬ (40 * u + j' ≤ k ∧ k < 40 * u + j' + n')) → rd a k = r a k := fun a k h1 h2 h3 => by
    show fO rb 114 _ _ _ a k = _
    rw [fO_o (by omega)]
    show fO ra 115 _ _ _ a k = _
    rw [fO_o (by omega), ra_o a k h1]
  refine ⟨nI n', ra, rd, fun Q => ?_, fun Q => ?_, Inv_s hI (hR_1 hh hu (s := u) (z := zu) (bi := bu) ⟨b1, b2, ?_, ?_, ?_, ?_, fun k hk => ?_⟩ (fun a k q => ?_)) (fun a k q => ?_)⟩
  · rw [pC, fc, gc, if_neg nw, if_neg nw', if_neg nw, if_neg nw']
  · rw [e4 ra (fun k l hk => ra_o k l (by omega)), if_neg (nI_pos (by omega)), if_neg (nI_pos (by omega)), if_neg (nI_pos (by omega)), if_neg (fun w => by have := (subL a1 (by omega) (by omega)).mp w; omega), if_neg (fun w => by have := (subL b1 (by omega) (by omega)).mp w; omega)]
    have l1 := lp1 n' 0 (by omega) Q
    rw [fO_0] at l1
    refine l1.trans ?_
    have l2 := lp2 n' 0 (by omega) Q
    rw [fO_0] at l2
    exact l2
  · rw [rd_o _ _ (by omega) (by omega) (by omega)]; exact b3
  · rw [rd_o _ _ (by omega) (by omega) (by omega)]; exact b4
  · rw [rd_o _ _ (by omega) (by omega) (by omega)]; exact b5
  · rw [rd_o _ _ (by omega) (by omega) (by omega)]; exact b6
  · have el : rd (90 + 3 * u) k = ra (90 + 3 * u) k := by
      show fO rb 114 _ _ _ _ k = _
      rw [fO_o (by omega)]
      show fO ra 115 _ _ _ _ k = _
      rw [fO_o (by omega)]
    rw [el, ov]
    by_cases q : j' ≤ k ∧ k < j' + n'
    · obtain ⟨p, rfl⟩ : ∃ p, k = j' + p := ⟨k - j', by omega⟩
      rw [if_pos ⟨rfl, q⟩, show j' + p - j' = p by omega, a7 _ (by omega)]
      have e1 : rd 114 (40 * u + (j' + p)) = rb 115 p := by
        rw [show 40 * u + (j' + p) = 40 * u + j' + p by omega]
        exact fO_e (by omega)
      have e2 := fO_e (r := ra) (a := 115) (b := 0) (s := n') (k := p) (g := fun q => ra 114 (40 * s + i' + q)) (by omega)
      rw [Nat.zero_add] at e2
      rw [e1]
      show _ = fO ra 115 0 n' (fun q => ra 114 (40 * s + i' + q)) 115 p
      rw [e2, ra_o _ _ (by omega), show 40 * s + (i' + p) = 40 * s + i' + p by omega]
    · rw [if_neg (fun w => q w.2), rd_o 114 _ (by omega) (by omega) (by omega)]
      exact b7 k hk
  · exact rd_o a k (by omega) (by omega) (by omega)
  · unfold PS at q
    exact rd_o a k (by omega) (by omega) (by omega)
end MOV
