section ORS
variable {d : Nat} {E : pEv} {r r' r1 r2 rm rm' : Nat → Nat → Int32} {t t' : Th} {X : Tx} {Q : Option Value → pH → Prop}
theorem er3n : ¬ er 3 = 0 := by decide
theorem st_order (s_E : oE E) (hI : Inv r) {x : Int32} : stI E d r 128 [.ref 10, .int x] 238 [.ref 101, .int x] := by
  have hh := hI.2.2.2.2.1
  obtain ⟨t, X, ok, xo, hP⟩ := hI.1
  obtain ⟨hC, hX, hM, hXM, hy⟩ := id hP
  have hn := ok.n
  have gM : f_X10_isSheet x = f_X9_within x 0 3 := in_l (a := 0) (b := 3)
  have pC : ∀ Q, wX (d + 70) 128 [.ref 10, .int x] (mkH E r) Q = wG (d + 69) 128 (5, [.ref 10, .int x, .retAddr 0], [.int (f_X9_errorOfSheet r x)], mkH E r) Q := fun Q => (en_X9_order (d := d + 69) s_E).trans (x_X9_errorOfSheet (d := d + 66) s_E)
  have pM : ∀ ra Q, wX (d + 70) 238 [.ref 101, .int x] (mkH E ra) Q = wG (d + 69) 238 (4, [.ref 101, .int x, .retAddr 0], [.int (f_X9_within x 0 3)], mkH E ra) Q := fun ra Q => by
    refine (en_X10_order (d := d + 69) s_E).trans ?_
    refine (x_X10_isSheet (d := d + 67) s_E).trans ?_
    rw [gM]
    rfl
  rcases eSh hh x with ⟨h, e⟩ | ⟨s, z, bi, hs, rfl, h, hsh, q⟩
  · refine st_e hI (k := 1) (by decide) (fun Q => ?_) (fun Q => ?_)
    · rw [pC, e]
      refine (sg_X9_order_5 (d := d + 69) s_E).trans ?_
      rw [if_neg erN.1]
      refine (x_wr (d := d + 67) s_E (by decide)).trans ?_
      exact sg_X9_order_15 (d := d + 69) s_E
    · rw [pM, h]
      refine (sg_X10_order_4 (d := d + 69) s_E (fun q => absurd rfl q)).trans ?_
      rw [if_pos rfl]
      refine (x_fin (d := d + 68) (k := 1) s_E (by decide)).trans ?_
      exact sg_X10_order_12 (d := d + 69) s_E
  · obtain ⟨z1, z2, z3, z4, z5, z6, z7⟩ := id hsh
    have xs : ¬ nI s < 0 ∧ (nI s).toNatClampNeg < 4 := ix_n hs (by decide)
    have cs : (nI s).toNatClampNeg = s := nI_clamp (by omega)
    rcases q with ⟨b0, e⟩ | ⟨b0, e⟩
    · refine st_e hI (k := 2) (by decide) (fun Q => ?_) (fun Q => ?_)
      · rw [pC, e]
        refine (sg_X9_order_5 (d := d + 69) s_E).trans ?_
        rw [if_neg erN.2]
        refine (x_wr (d := d + 67) s_E (by decide)).trans ?_
        exact sg_X9_order_15 (d := d + 69) s_E
      · rw [pM, h]
        refine (sg_X10_order_4 (d := d + 69) s_E (fun _ => xs)).trans ?_
        have e112 : eC r 2 112 s = 0 := (uI_o (by omega)).trans (z4.trans ((bi_t bi (by omega)).1.mpr b0))
        rw [if_neg (by decide), cs, e112, if_pos rfl]
        refine (x_fin (d := d + 68) (k := 2) s_E (by decide)).trans ?_
        exact sg_X10_order_27 (d := d + 69) s_E
    · have n0 : ¬ nI bi = 0 := fun w => b0 ((bi_t bi (by omega)).1.mp w)
      have hr : oRow (89 + 3 * s) 40 := by
        have := (oSh_at (x := nI s)).2.2.2
        rwa [sAt s hs, show 88 + 3 * s + 1 = 89 + 3 * s by omega] at this
      have hk : rK r (89 + 3 * s) 40 z := ⟨z5, z1, by decide⟩
      obtain ⟨b, hb, e1⟩ := wh_C (d := d + 67) (E := E) s_E ok hC hr hk
      rw [show 89 + 3 * s + 1 = 90 + 3 * s by omega] at hb
      have qC : ∀ Q, wX (d + 70) 128 [.ref 10, .int (nI s)] (mkH E r) Q = wG (d + 69) 128 (31, [.ref 10, .int (nI s), .int 0], [.int b], mkH E r) Q := fun Q => by
        rw [pC, e]
        refine (sg_X9_order_5 (d := d + 69) s_E).trans ?_
        rw [if_pos rfl]
        refine (x_X9_sheetAt (d := d + 67) s_E).trans ?_
        refine (sg_X9_order_25 (d := d + 69) s_E oSh_at).trans ?_
        rw [sAt s hs, show 88 + 3 * s + 1 = 89 + 3 * s by omega]
        exact e1 _
      have qM : ∀ ra : Nat → Nat → Int32, tM t ra → (∀ a k, a = 112 ∨ a = 113 ∨ a = 114 → ra a k = r a k) → ∃ b' : Int32, (b' = 1 ∧ whO t.n z (r (90 + 3 * s)) ∨ b' = 0 ∧ ¬ whO t.n z (r (90 + 3 * s))) ∧ ∀ Q, wX (d + 70) 238 [.ref 101, .int (nI s)] (mkH E ra) Q = wG (d + 69) 238 (33, [.ref 101, .int (nI s), .retAddr 0], [.int b'], mkH E ra) Q := fun ra hra h2 => by
        obtain ⟨b', g1, g2⟩ := wh_M (d := d + 64) (E := E) s_E ok hra hs z1 ((h2 113 s (by omega)).trans z6) (q := r (90 + 3 * s)) (fun k hk => (h2 114 _ (by omega)).trans (z7 k hk).symm)
        refine ⟨b', g1, fun Q => ?_⟩
        rw [pM, h]
        refine (sg_X10_order_4 (d := d + 69) s_E (fun _ => xs)).trans ?_
        rw [if_neg (by decide), cs, h2 112 s (by omega), z4, if_neg n0]
        exact g2 _
      rcases hb with ⟨rfl, hw⟩ | ⟨rfl, hw⟩
      · obtain ⟨w1, w2, w3⟩ := hw
        have hcp : rK r (89 + 3 * s) 40 z := hk
        let ra : Nat → Nat → Int32 := fR (uI r 32 1 (nI z)) 33 z (r (89 + 3 * s + 1))
        have ra_o : ∀ a k, a ≠ 33 → ra a k = r a k := fun a k q => by
          show fR _ _ _ _ a k = _
          rw [fR_o q]
          by_cases c : a = 32 ∧ k = 1
          · rw [c.1, c.2, uI_e, w1, hC.o1]
          · rw [uI_o (by omega)]
        have hMa : tM t ra := hM.fr (funext fun k => ra_o 102 k (by omega))
        obtain ⟨b', g1, g2⟩ := qM ra hMa (fun a k q => ra_o a k (by omega))
        have hb1 : b' = 1 := by
          rcases g1 with ⟨g, _⟩ | ⟨_, g⟩
          · exact g
          · exact absurd ⟨w1, w2, w3⟩ g
        let f : Nat → Nat := fun k => (r (90 + 3 * s) k).toNatClampNeg
        have hf : ∀ k, k < z → f k < t.n ∧ r (90 + 3 * s) k = nI (f k) := fun k hk => by
          obtain ⟨v, hv, e⟩ := w2 k hk
          show (r (90 + 3 * s) k).toNatClampNeg < t.n ∧ r (90 + 3 * s) k = nI (r (90 + 3 * s) k).toNatClampNeg
          rw [e, nI_clamp (by omega)]
          exact ⟨hv, rfl⟩
        have lp : ∀ m i, i + m = t.n → ∀ Q, wG (d + 69) 238 (44, [.ref 101, .int (nI s), .int (nI i)], [], mkH E (fO ra 102 80 i (fun k => nI (f k)))) Q = Q (some (.int (nI t.n))) (mkH E (fO ra 102 80 t.n (fun k => nI (f k)))) := by
          have h0 : ∀ i, (fO ra 102 80 i (fun k => nI (f k))) 102 0 = nI t.n := fun i => by
            rw [fO_o (by omega)]; exact hMa.n
          intro m
          induction m with
          | zero =>
            intro i hi Q
            obtain rfl : i = t.n := by omega
            refine (sg_X10_order_44 (d := d + 69) s_E (fun q => ?_) (fun q => ?_)).trans ?_
            · rw [h0] at q; exact absurd q (nI_nlt (Nat.le_refl _) (by omega))
            · rw [h0] at q; exact absurd q (nI_nlt (Nat.le_refl _) (by omega))
            · rw [h0, if_neg (nI_nlt (Nat.le_refl _) (by omega))]
          | succ m ih =>
            intro i hi Q
            obtain ⟨x1, x2⟩ := ix40 s hs i (by omega)
            have oa := o_at (show i < 7 by omega)
            refine (sg_X10_order_44 (d := d + 69) s_E (fun _ => ⟨x2, by omega⟩) (fun _ => ⟨oa.2, by omega⟩)).trans ?_
            have ev : (fO ra 102 80 i (fun k => nI (f k))) 114 (40 * s + i) = nI (f i) := by
              rw [fO_o (by omega), ra_o _ _ (by omega), ← z7 i (by omega)]
              exact (hf i (by omega)).2
            rw [h0, if_pos (nI_lt (by omega) (by omega)), x1, oa.1, ev, fO_s (g := fun k => nI (f k)), ← nI_succ]
            exact ih (i + 1) (by omega) Q
        refine ⟨nI t.n, ra, fO ra 102 80 t.n (fun k => nI (f k)), fun Q => ?_, fun Q => ?_, Inv_o hI ok xo hP (o' := f) (fun i hi => (hf i (by omega)).1) (fun i j hi hj e => NWo_inj hn (fun k hk => (hf k hk).1) w3 i j (by omega) (by omega) e) (fun i hi => ?_) (fun i hi => fO_e hi) (fun a k q => ?_)⟩
        · rw [qC]
          refine (sg_X9_order_31 (d := d + 69) s_E).trans ?_
          rw [if_neg (by decide)]
          refine (x_X9_sheetAt (d := d + 67) s_E).trans ?_
          refine (sg_X9_order_54 (d := d + 69) s_E oSh_at).trans ?_
          rw [sAt s hs, show 88 + 3 * s + 1 = 89 + 3 * s by omega]
          refine (x_cpy (d := d + 65) (a := 32) (ca := 7) s_E (oR rfl) hr hk (by omega) (by decide) (by omega) (by omega)).trans ?_
          refine (sg_X9_order_60 (d := d + 69) s_E).trans ?_
          show Q (some (.int (ra 11 7))) (mkH E ra) = _
          rw [ra_o _ _ (by omega), hC.n]
        · rw [g2, hb1]
          refine (sg_X10_order_33 (d := d + 69) s_E).trans ?_
          rw [if_neg (by decide)]
          have l1 := lp t.n 0 (by omega) Q
          rw [fO_0] at l1
          exact l1
        · rw [fO_o (by omega)]
          show fR _ _ _ _ 33 i = _
          rw [fR_at (by omega), show 89 + 3 * s + 1 = 90 + 3 * s by omega]
          exact (hf i (by omega)).2
        · have q1 : a ≠ 33 := fun w => q (Or.inl w)
          have q2 : ¬ (a = 102 ∧ 80 ≤ k ∧ k ≤ 86) := fun w => q (Or.inr (Or.inl w))
          rw [fO_o (by omega), ra_o a k q1]
      · obtain ⟨b', g1, g2⟩ := qM (eC r 3) (tM_eC hM) (fun a k q => uI_o (by omega))
        have hb1 : b' = 0 := by
          rcases g1 with ⟨_, g⟩ | ⟨g, _⟩
          · exact absurd g hw
          · exact g
        refine st_e hI (k := 3) (by decide) (fun Q => ?_) (fun Q => ?_)
        · rw [qC]
          refine (sg_X9_order_31 (d := d + 69) s_E).trans ?_
          rw [if_pos rfl, er3]
          refine (x_wr (d := d + 67) s_E (by decide)).trans ?_
          exact sg_X9_order_41 (d := d + 69) s_E
        · rw [g2, hb1]
          refine (sg_X10_order_33 (d := d + 69) s_E).trans ?_
          rw [if_pos rfl]
          refine (x_fin (d := d + 68) (k := 3) s_E (by decide)).trans ?_
          exact sg_X10_order_41 (d := d + 69) s_E
end ORS
