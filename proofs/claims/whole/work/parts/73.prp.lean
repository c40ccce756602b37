section PRP
variable {d : Nat} {E : pEv} {r r' r1 r2 : Nat → Nat → Int32} {t t' : Th} {X : Tx} {Q : Option Value → pH → Prop}
theorem uI_cm {a k b j : Nat} {v w : Int32} (h : a ≠ b ∨ k ≠ j) : uI (uI r a k v) b j w = uI (uI r b j w) a k v := by
  funext x y
  rw [uI_at, uI_at, uI_at, uI_at]
  by_cases h1 : x = b ∧ y = j
  · rw [if_pos h1, if_neg (by omega), if_pos h1]
  · rw [if_neg h1, if_neg h1]
theorem tC_FG {j k : Nat} {v : Int32} (ok : tOK t) (hj : j < t.n) (hp : ¬ t.P j < 4) (hk : k = 7 ∨ k = 8) (hC : tC t r) : tC t (uI r (13 + j) k v) := by
  have hn := ok.n
  obtain ⟨h1, h2, h3, h4, h5, h6, h7, h8, h9, h10, h11, h12, h13, h14, h15⟩ := hC
  refine ⟨?_, ?_, ?_, ?_, ?_, ?_, ?_, ?_, ?_, ?_, ?_, ?_, ?_, ?_, ?_⟩
  · rw [uI_o (by omega)]; exact h1
  · intro i hi; rw [uI_o (by omega)]; exact h2 i hi
  · intro i hi; rw [uI_o (by omega)]; exact h3 i hi
  · intro i hi; rw [uI_o (by omega)]; exact h4 i hi
  · intro i hi; rw [uI_o (by omega)]; exact h5 i hi
  · intro i hi; rw [uI_o (by omega)]; exact h6 i hi
  · intro i hi; rw [uI_o (by omega)]; exact h7 i hi
  · intro i hi; rw [uI_o (by omega)]; exact h8 i hi
  · intro i hi q
    have : i ≠ j := fun e => hp (e ▸ q)
    rw [uI_o (by omega)]; exact h9 i hi q
  · intro i hi q
    have : i ≠ j := fun e => hp (e ▸ q)
    rw [uI_o (by omega)]; exact h10 i hi q
  · intro i hi; rw [uI_o (by omega)]; exact h11 i hi
  · rw [uI_o (by omega)]; exact h12
  · intro i hi; rw [uI_o (by omega)]; exact h13 i hi
  · rw [uI_o (by omega)]; exact h14
  · rw [uI_o (by omega)]; exact h15
theorem tM_FG {j k : Nat} {v : Int32} (ok : tOK t) (hj : j < t.n) (hp : ¬ t.P j < 4) (hk : k = 6 ∨ k = 7) (hM : tM t r) : tM t (uI r 102 (10 + 10 * j + k) v) := by
  have hn := ok.n
  obtain ⟨h1, h3, h4, h5, h6, h7, h8, h9, h10, h11, h13, h14⟩ := hM
  refine ⟨?_, ?_, ?_, ?_, ?_, ?_, ?_, ?_, ?_, ?_, ?_, ?_⟩
  · rw [uI_o (by omega)]; exact h1
  · intro i hi; rw [uI_o (by omega)]; exact h3 i hi
  · intro i hi; rw [uI_o (by omega)]; exact h4 i hi
  · intro i hi; rw [uI_o (by omega)]; exact h5 i hi
  · intro i hi; rw [uI_o (by omega)]; exact h6 i hi
  · intro i hi; rw [uI_o (by omega)]; exact h7 i hi
  · intro i hi; rw [uI_o (by omega)]; exact h8 i hi
  · intro i hi q
    have : i ≠ j := fun e => hp (e ▸ q)
    rw [uI_o (by omega)]; exact h9 i hi q
  · intro i hi q
    have : i ≠ j := fun e => hp (e ▸ q)
    rw [uI_o (by omega)]; exact h10 i hi q
  · intro i hi; rw [uI_o (by omega)]; exact h11 i hi
  · intro i hi; rw [uI_o (by omega)]; exact h13 i hi
  · rw [uI_o (by omega)]; exact h14
theorem up_Ps {s v : Nat} : (t.up 5 s v).P s = v := by
  show (if 5 = 5 ∧ s = s then v else t 5 s) = v
  rw [if_pos ⟨rfl, rfl⟩]
theorem up_Fs {s v : Nat} : (t.up 6 s v).F s = v := by
  show (if 6 = 6 ∧ s = s then v else t 6 s) = v
  rw [if_pos ⟨rfl, rfl⟩]
theorem up_Gs {s v : Nat} : (t.up 7 s v).G s = v := by
  show (if 7 = 7 ∧ s = s then v else t 7 s) = v
  rw [if_pos ⟨rfl, rfl⟩]
theorem up_F7 {s v : Nat} : (t.up 7 s v).F = t.F := by
  funext i
  show (if 6 = 7 ∧ i = s then v else t 6 i) = t 6 i
  rw [if_neg (by omega)]
/-- a scene without a prop: 7 and 8 hold anything -/
theorem prp0 (hI : Inv r) (xo : xOK X) (ok : tOK t) (hP : PI t X r r) {j : Nat} (hj : j < t.n) {y z : Int32} : Inv (uI (uI (uI (uI (uI (uI r (13 + j) 6 (nI 4)) (13 + j) 7 y) (13 + j) 8 z) 102 (10 + 10 * j + 5) (nI 4)) 102 (10 + 10 * j + 6) 0) 102 (10 + 10 * j + 7) 0) := by
  obtain ⟨hC, hX, hM, hXM, hy⟩ := hP
  have hn := ok.n
  have o1 : tOK (t.up 5 j 4) := tOK_up ok (by omega) (by omega) (by omega) (by omega) (by omega) (by omega) (fun _ => ⟨by omega, by omega⟩) (by omega) (by omega)
  have hj1 : j < (t.up 5 j 4).n := by rw [upT_n (by omega)]; exact hj
  have hp : ¬ (t.up 5 j 4).P j < 4 := by rw [up_Ps]; omega
  have c1 := tC_up ok (f := 5) (s := j) (v := 4) (by omega) hj (fun _ w => absurd w (by omega)) hC
  have c2 := tC_FG (v := z) o1 hj1 hp (Or.inr rfl) (tC_FG (v := y) o1 hj1 hp (Or.inl rfl) c1)
  have m0 : tM t (uI (uI (uI r (13 + j) 6 (nI 4)) (13 + j) 7 y) (13 + j) 8 z) := tM_c (tM_c (tM_c hM (by omega)) (by omega)) (by omega)
  have m1 := tM_up ok (f := 5) (s := j) (v := 4) (by omega) hj (fun _ w => absurd w (by omega)) m0
  have m2 := tM_FG (v := 0) o1 hj1 hp (Or.inr rfl) (tM_FG (v := 0) o1 hj1 hp (Or.inl rfl) m1)
  exact Inv_t hI xo hX hXM hy o1 (tC_m (tC_m (tC_m c2 o1.n) o1.n) o1.n) m2 (sE_tr (sE_u (by unfold PT; omega)) (sE_tr (sE_u (by unfold PT; omega)) (sE_tr (sE_u (by unfold PT; omega)) (sE_tr (sE_u (by unfold PT; omega)) (sE_tr (sE_u (by unfold PT; omega)) (sE_u (by unfold PT; omega)))))))
theorem prp1 (hI : Inv r) (xo : xOK X) (ok : tOK t) (hP : PI t X r r) {j p y z : Nat} (hj : j < t.n) (hp : p < 4) (hy' : y ≤ 5) (hz : z ≤ 5) : Inv (uI (uI (uI (uI (uI (uI r (13 + j) 6 (nI p)) (13 + j) 7 (nI y)) (13 + j) 8 (nI z)) 102 (10 + 10 * j + 5) (nI p)) 102 (10 + 10 * j + 6) (nI y)) 102 (10 + 10 * j + 7) (nI z)) := by
  obtain ⟨hC, hX, hM, hXM, hy⟩ := hP
  have hn := ok.n
  have o1 : tOK (t.up 6 j y) := tOK_up ok (by omega) (by omega) (by omega) (by omega) (by omega) (by omega) (by omega) (fun _ => hy') (by omega)
  have hj1 : j < (t.up 6 j y).n := by rw [upT_n (by omega)]; exact hj
  have o2 : tOK ((t.up 6 j y).up 7 j z) := tOK_up o1 (by omega) (by omega) (by omega) (by omega) (by omega) (by omega) (by omega) (fun _ => hz) (by omega)
  have hj2 : j < ((t.up 6 j y).up 7 j z).n := by rw [upT_n (by omega)]; exact hj1
  have fF : ((t.up 6 j y).up 7 j z).F j = y := by rw [up_F7, up_Fs]
  have fG : ((t.up 6 j y).up 7 j z).G j = z := up_Gs
  have o3 : tOK (((t.up 6 j y).up 7 j z).up 5 j p) := tOK_up o2 (by omega) (by omega) (by omega) (by omega) (by omega) (by omega) (fun _ => ⟨by omega, fun _ => by rw [fF, fG]; exact ⟨hy', hz⟩⟩) (by omega) (by omega)
  have ec : uI (uI (uI r (13 + j) 6 (nI p)) (13 + j) 7 (nI y)) (13 + j) 8 (nI z) = uI (uI (uI r (13 + j) 7 (nI y)) (13 + j) 8 (nI z)) (13 + j) 6 (nI p) := by
    rw [uI_cm (k := 6) (j := 7) (by omega), uI_cm (k := 6) (j := 8) (by omega)]
  rw [ec]
  have em : ∀ q : Nat → Nat → Int32, uI (uI (uI q 102 (10 + 10 * j + 5) (nI p)) 102 (10 + 10 * j + 6) (nI y)) 102 (10 + 10 * j + 7) (nI z) = uI (uI (uI q 102 (10 + 10 * j + 6) (nI y)) 102 (10 + 10 * j + 7) (nI z)) 102 (10 + 10 * j + 5) (nI p) := fun q => by
    rw [uI_cm (k := 10 + 10 * j + 5) (j := 10 + 10 * j + 6) (by omega), uI_cm (k := 10 + 10 * j + 5) (j := 10 + 10 * j + 7) (by omega)]
  rw [em]
  have c1 := tC_up ok (f := 6) (s := j) (v := y) (by omega) hj (fun w => absurd w (by omega)) hC
  have c2 := tC_up o1 (f := 7) (s := j) (v := z) (by omega) hj1 (fun w => absurd w (by omega)) c1
  have c3 := tC_up o2 (f := 5) (s := j) (v := p) (by omega) hj2 (fun _ _ => by
    rw [fF, fG]
    exact ⟨by rw [uI_o (by omega), uI_e], uI_e⟩) c2
  have m0 : tM t (uI (uI (uI r (13 + j) 7 (nI y)) (13 + j) 8 (nI z)) (13 + j) 6 (nI p)) := tM_c (tM_c (tM_c hM (by omega)) (by omega)) (by omega)
  have m1 := tM_up ok (f := 6) (s := j) (v := y) (by omega) hj (fun w => absurd w (by omega)) m0
  have m2 := tM_up o1 (f := 7) (s := j) (v := z) (by omega) hj1 (fun w => absurd w (by omega)) m1
  have m3 := tM_up o2 (f := 5) (s := j) (v := p) (by omega) hj2 (fun _ _ => by
    rw [fF, fG]
    exact ⟨by rw [uI_o (by omega), uI_e], uI_e⟩) m2
  exact Inv_t hI xo hX hXM hy o3 (tC_m (tC_m (tC_m c3 o3.n) o3.n) o3.n) m3 (sE_tr (sE_u (by unfold PT; omega)) (sE_tr (sE_u (by unfold PT; omega)) (sE_tr (sE_u (by unfold PT; omega)) (sE_tr (sE_u (by unfold PT; omega)) (sE_tr (sE_u (by unfold PT; omega)) (sE_u (by unfold PT; omega)))))))
theorem lt4_t : ∀ v, v ≤ 4 → (nI v < 4 ↔ v < 4) ∧ (nI v = 4 ↔ v = 4) := by decide +kernel
theorem st_prop (s_E : oE E) (hI : Inv r) {x p y z : Int32} : stI E d r 97 [.ref 10, .int x, .int p, .int y, .int z] 182 [.ref 101, .int x, .int p, .int y, .int z] := by
  obtain ⟨t, X, ok, xo, hP⟩ := hI.1
  obtain ⟨hC, hX, hM, hXM, hy⟩ := id hP
  have hn := ok.n
  have g2 : f_X10_in p.toInt64 0 4 = f_X9_within p 0 4 := in_l (a := 0) (b := 4)
  have g3 : f_X10_in y.toInt64 0 5 = f_X9_within y 0 5 := in_l (a := 0) (b := 5)
  have g4 : f_X10_in z.toInt64 0 5 = f_X9_within z 0 5 := in_l (a := 0) (b := 5)
  have w01 : ∀ {v a b : Int32}, ¬ f_X9_within v a b = 0 → f_X9_within v a b = 1 := by
    intro v a b q
    unfold f_X9_within at q ⊢
    by_cases h1 : v < a
    · rw [if_pos h1] at q; exact absurd rfl q
    · rw [if_neg h1] at q ⊢
      by_cases h2 : b < v
      · rw [if_pos h2] at q; exact absurd rfl q
      · rw [if_neg h2]
  have pC : ∀ Q, wX (d + 70) 97 [.ref 10, .int x, .int p, .int y, .int z] (mkH E r) Q = Q (some (.int (f_X9_prop r x p y z))) (mkH E (g_X9_prop r x p y z)) := fun Q => x_X9_prop (d := d + 67) s_E (fun _ _ => by decide) (fun _ _ _ => by decide) (fun _ _ _ _ _ => by decide) (fun _ _ _ _ _ _ => by decide)
  unfold f_X9_prop g_X9_prop at pC
  have sb : ∀ ra, tM t ra → ∀ f, f < 9 → (¬ f_X10_isScene ra x = 0) → ¬ ((10 + (10 * x)) + nI f) < 0 ∧ ((10 + (10 * x)) + nI f).toNatClampNeg < 264 := fun ra hra f hf q => by
    rw [gS_M hra] at q
    rcases gS_s ok x with h | ⟨j, hj, rfl, _⟩
    · exact absurd h q
    · exact itc (by omega) hf
  have pM : ∀ ra, tM t ra → ∀ Q, wX (d + 70) 182 [.ref 101, .int x, .int p, .int y, .int z] (mkH E ra) Q = Q (some (.int (f_X10_prop ra x p y z))) (mkH E (g_X10_prop ra x p y z)) := fun ra hra Q => x_X10_prop (d := d + 67) s_E
    (fun q _ _ _ _ => sb ra hra 5 (by decide) q) (fun q _ _ _ _ _ => sb ra hra 6 (by decide) q) (fun q _ _ _ _ _ _ => sb ra hra 7 (by decide) q) (fun q _ _ _ _ _ _ => sb ra hra 7 (by decide) q) (fun q _ _ _ _ _ => sb ra hra 6 (by decide) q) (fun q _ _ _ _ _ _ => sb ra hra 7 (by decide) q) (fun q _ _ _ _ _ _ => sb ra hra 7 (by decide) q)
    (fun q _ _ => sb ra hra 5 (by decide) q) (fun q _ _ _ => sb ra hra 6 (by decide) q) (fun q _ _ _ _ => sb ra hra 7 (by decide) q) (fun q _ _ _ _ => sb ra hra 7 (by decide) q) (fun q _ _ _ => sb ra hra 6 (by decide) q) (fun q _ _ _ _ => sb ra hra 7 (by decide) q) (fun q _ _ _ _ => sb ra hra 7 (by decide) q)
  have pE : (∀ ra, tM t ra → f_X10_prop ra x p y z = er 1 ∧ g_X10_prop ra x p y z = eM ra 1) → ∀ Q, wX (d + 70) 182 [.ref 101, .int x, .int p, .int y, .int z] (mkH E (eC r 1)) Q = Q (some (.int (er 1))) (mkH E (eM (eC r 1) 1)) := fun q Q => by
    rw [pM _ (tM_eC hM), (q _ (tM_eC hM)).1, (q _ (tM_eC hM)).2]
  rcases gS_s ok x with h | ⟨j, hj, rfl, h⟩
  · refine st_e hI (k := 1) (by decide) (fun Q => ?_) (pE (fun ra hra => ?_))
    · rw [pC, gS_C hC, h, i00, i00, er1, wr_f (by decide), wr_g (by decide)]
    · unfold f_X10_prop g_X10_prop
      rw [gS_M hra, h, i00, i00]; exact ⟨fi1, gi1⟩
  · rcases wi_v (x := p) (a := 0) (m := 4) (by decide) (by decide) with h2 | ⟨v, _, hv, rfl, h2⟩
    · have h2 : f_X9_within p 0 4 = 0 := h2
      refine st_e hI (k := 1) (by decide) (fun Q => ?_) (pE (fun ra hra => ?_))
      · rw [pC, gS_C hC, h, h2, i10, i10, i00, i00, er1, wr_f (by decide), wr_g (by decide)]
      · unfold f_X10_prop g_X10_prop
        rw [gS_M hra, h, g2, h2, i10, i10, i00, i00]; exact ⟨fi1, gi1⟩
    · have h2 : f_X9_within (nI v) 0 4 = 1 := h2
      obtain ⟨v1, v2⟩ := lt4_t v hv
      by_cases v4 : v = 4
      · have hlt : ¬ nI v < 4 := fun q => by have := v1.mp q; omega
        refine ⟨1, uI (uI (uI r (13 + j) 6 (nI 4)) (13 + j) 7 y) (13 + j) 8 z, uI (uI (uI (uI (uI (uI r (13 + j) 6 (nI 4)) (13 + j) 7 y) (13 + j) 8 z) 102 (10 + 10 * j + 5) (nI 4)) 102 (10 + 10 * j + 6) 0) 102 (10 + 10 * j + 7) 0, fun Q => ?_, fun Q => ?_, prp0 hI xo ok hP hj⟩
        · rw [pC, gS_C hC, h, h2, i10, i10, i10, i10, if_pos (v2.mpr v4), if_pos (v2.mpr v4), sc_at (by omega), v4]
          rfl
        · have m0 : tM t (uI (uI (uI r (13 + j) 6 (nI 4)) (13 + j) 7 y) (13 + j) 8 z) := tM_c (tM_c (tM_c hM (by omega)) (by omega)) (by omega)
          rw [pM _ m0]
          have e1 : f_X10_prop (uI (uI (uI r (13 + j) 6 (nI 4)) (13 + j) 7 y) (13 + j) 8 z) (nI j) (nI v) y z = 1 := by
            unfold f_X10_prop
            rw [gS_M m0, h, g2, h2, i10, i10, if_neg hlt, if_neg hlt, if_neg hlt]
          have e2 : g_X10_prop (uI (uI (uI r (13 + j) 6 (nI 4)) (13 + j) 7 y) (13 + j) 8 z) (nI j) (nI v) y z = uI (uI (uI (uI (uI (uI r (13 + j) 6 (nI 4)) (13 + j) 7 y) (13 + j) 8 z) 102 (10 + 10 * j + 5) (nI 4)) 102 (10 + 10 * j + 6) 0) 102 (10 + 10 * j + 7) 0 := by
            unfold g_X10_prop
            rw [gS_M m0, h, g2, h2, i10, i10, if_neg hlt, if_neg hlt, if_neg hlt, v4]
            refine (puts_n (f := 7) (by omega) (by decide)).trans ?_
            refine congrArg (fun q => uI q 102 (10 + 10 * j + 7) 0) ((puts_n (f := 6) (by omega) (by decide)).trans ?_)
            exact congrArg (fun q => uI q 102 (10 + 10 * j + 6) 0) (puts_n (f := 5) (by omega) (by decide))
          rw [e1, e2]
      · have hlt : nI v < 4 := v1.mpr (by omega)
        have hne : ¬ nI v = 4 := fun q => v4 (v2.mp q)
        rcases wi_v (x := y) (a := 0) (m := 5) (by decide) (by decide) with h3 | ⟨f, _, hf, rfl, h3⟩
        · have h3 : f_X9_within y 0 5 = 0 := h3
          refine st_e hI (k := 1) (by decide) (fun Q => ?_) (pE (fun ra hra => ?_))
          · rw [pC, gS_C hC, h, h2, h3, i10, i10, i10, i10, if_neg hne, if_neg hne, i00, i00, er1, wr_f (by decide), wr_g (by decide)]
          · unfold f_X10_prop g_X10_prop
            rw [gS_M hra, h, g2, h2, g3, h3, i10, i10, i10, i10, if_pos hlt, if_pos hlt, i00, i00, if_pos hlt]; exact ⟨fi1, gi1⟩
        · have h3 : f_X9_within (nI f) 0 5 = 1 := h3
          rcases wi_v (x := z) (a := 0) (m := 5) (by decide) (by decide) with h4 | ⟨g, _, hg, rfl, h4⟩
          · have h4 : f_X9_within z 0 5 = 0 := h4
            refine st_e hI (k := 1) (by decide) (fun Q => ?_) (pE (fun ra hra => ?_))
            · rw [pC, gS_C hC, h, h2, h3, h4, i10, i10, i10, i10, if_neg hne, if_neg hne, i10, i10, i00, i00, er1, wr_f (by decide), wr_g (by decide)]
            · unfold f_X10_prop g_X10_prop
              rw [gS_M hra, h, g2, h2, g3, h3, g4, h4, i10, i10, i10, i10, if_pos hlt, if_pos hlt, i10, i10, i00, i00, if_pos hlt]; exact ⟨fi1, gi1⟩
          · have h4 : f_X9_within (nI g) 0 5 = 1 := h4
            refine ⟨1, uI (uI (uI r (13 + j) 6 (nI v)) (13 + j) 7 (nI f)) (13 + j) 8 (nI g), _, fun Q => ?_, fun Q => ?_, prp1 hI xo ok hP hj (p := v) (y := f) (z := g) (by omega) hf hg⟩
            · rw [pC, gS_C hC, h, h2, h3, h4, i10, i10, i10, i10, if_neg hne, if_neg hne, i10, i10, i10, i10, sc_at (by omega)]
              rfl
            · have m0 : tM t (uI (uI (uI r (13 + j) 6 (nI v)) (13 + j) 7 (nI f)) (13 + j) 8 (nI g)) := tM_c (tM_c (tM_c hM (by omega)) (by omega)) (by omega)
              rw [pM _ m0]
              have e1 : f_X10_prop (uI (uI (uI r (13 + j) 6 (nI v)) (13 + j) 7 (nI f)) (13 + j) 8 (nI g)) (nI j) (nI v) (nI f) (nI g) = 1 := by
                unfold f_X10_prop
                rw [gS_M m0, h, g2, h2, g3, h3, g4, h4, i10, i10, if_pos hlt, i10, i10, if_pos hlt, if_pos hlt]
              have e2 : g_X10_prop (uI (uI (uI r (13 + j) 6 (nI v)) (13 + j) 7 (nI f)) (13 + j) 8 (nI g)) (nI j) (nI v) (nI f) (nI g) = uI (uI (uI (uI (uI (uI r (13 + j) 6 (nI v)) (13 + j) 7 (nI f)) (13 + j) 8 (nI g)) 102 (10 + 10 * j + 5) (nI v)) 102 (10 + 10 * j + 6) (nI f)) 102 (10 + 10 * j + 7) (nI g) := by
                unfold g_X10_prop
                rw [gS_M m0, h, g2, h2, g3, h3, g4, h4, i10, i10, if_pos hlt, i10, i10, if_pos hlt, if_pos hlt]
                refine (puts_n (f := 7) (by omega) (by decide)).trans ?_
                refine congrArg (fun q => uI q 102 (10 + 10 * j + 7) (nI g)) ((puts_n (f := 6) (by omega) (by decide)).trans ?_)
                exact congrArg (fun q => uI q 102 (10 + 10 * j + 6) (nI f)) (puts_n (f := 5) (by omega) (by decide))
              rw [e1, e2]
theorem st_tell (s_E : oE E) (hI : Inv r) {x : Int32} : stI E d r 132 [.ref 10, .int x] 242 [.ref 101, .int x] := by
  obtain ⟨t, X, ok, xo, hC, hX, hM, hXM, ⟨y1, y2, y3⟩, ⟨n, b, y4⟩, w, y5⟩ := hI.1
  obtain ⟨w1, w2, w3, w4⟩ := id y5
  have pC : ∀ Q, wX (d + 70) 132 [.ref 10, .int x] (mkH E r) Q = Q (some (.int (f_X9_tell r x))) (mkH E (g_X9_tell r x)) := fun Q => x_X9_tell (d := d + 67) s_E (fun _ _ => by decide)
  have tb : ∀ w, w ≤ 20 → (nI w = 20 ↔ w = 20) ∧ (w < 20 → ¬ (92 + nI w) < 0 ∧ (92 + nI w).toNatClampNeg < 264) ∧ (92 + nI w).toNatClampNeg = 92 + w ∧ (nI w < 20 ↔ w < 20) ∧ ¬ nI w < 0 := by decide +kernel
  obtain ⟨t1, t2, t3, t4, t5⟩ := tb w w1
  have pM : ∀ ra, ra 102 6 = nI w → ∀ Q, wX (d + 70) 242 [.ref 101, .int x] (mkH E ra) Q = Q (some (.int (f_X10_tell ra x))) (mkH E (g_X10_tell ra x)) := fun ra hra Q => x_X10_tell (d := d + 68) s_E (fun q => by
    rw [hra] at q ⊢
    exact t2 (by
      have : ¬ w = 20 := fun e => q (t1.mpr e)
      omega))
  by_cases hw : w = 20
  · have hra : eC r 4 102 6 = nI w := (uI_o (by omega)).trans w3
    refine st_e hI (k := 4) (by decide) (fun Q => ?_) (fun Q => ?_)
    · rw [pC]
      unfold f_X9_tell g_X9_tell
      have : ¬ nI w < 20 := fun q => by have := t4.mp q; omega
      rw [w2, if_neg this, if_neg this, er4, wr_f (by decide), wr_g (by decide)]
    · rw [pM _ hra]
      unfold f_X10_tell g_X10_tell
      rw [hra, if_pos (t1.mpr hw), if_pos (t1.mpr hw), fi4, gi4]
  · have hlt : nI w < 20 := t4.mpr (by omega)
    have e1 : g_X9_tell r x = uI (uI r 37 w x) 36 1 (nI (w + 1)) := by
      unfold g_X9_tell g_X4_add
      rw [w2, if_pos hlt, if_neg t5]
      have : nI w < Int32.ofNat 20 := hlt
      rw [if_pos this, nI_clamp (by omega), uI_o (by omega), w2, nI_succ]
    have e2 : f_X9_tell r x = nI (w + 1) := by
      have q : f_X9_tell r x = (g_X9_tell r x) 36 1 := by
        unfold f_X9_tell g_X9_tell
        rw [w2, if_pos hlt, if_pos hlt]
      rw [q, e1, uI_e]
    have hra : (uI (uI r 37 w x) 36 1 (nI (w + 1))) 102 6 = nI w := by rw [uI_o (by omega), uI_o (by omega), w3]
    have hne : ¬ nI w = 20 := fun q => hw (t1.mp q)
    refine ⟨nI (w + 1), uI (uI r 37 w x) 36 1 (nI (w + 1)), uI (uI (uI (uI r 37 w x) 36 1 (nI (w + 1))) 102 (92 + w) x) 102 6 (nI (w + 1)), fun Q => ?_, fun Q => ?_, Inv_pl hI ⟨t, X, ok, xo, tC_f hC ok.n (fun a k q => ?_), xC_f hX (fun a k q => ?_), tM_f hM ok.n (fun k q => ?_), xM_f xo hXM (fun k q => ?_), ⟨?_, ?_, ?_⟩, ⟨n, b, tp_f y4 (fun a k q => ?_) (fun k q => ?_)⟩, w + 1, ?_⟩ (sE_tr (sE_u (by unfold PL; omega)) (sE_tr (sE_u (by unfold PL; omega)) (sE_tr (sE_u (by unfold PL; omega)) (sE_u (by unfold PL; omega)))))⟩
    · rw [pC, e1, e2]
    · rw [pM _ hra]
      unfold f_X10_tell g_X10_tell
      rw [hra, if_neg hne, if_neg hne, t3, uI_o (a := 102) (k := 92 + w) (j := 6) (by omega), hra, nI_succ, uI_e]
    · unfold rTC at q; rw [uI_o (by omega), uI_o (by omega), uI_o (by omega), uI_o (by omega)]
    · unfold rXC at q; rw [uI_o (by omega), uI_o (by omega), uI_o (by omega), uI_o (by omega)]
    · unfold rTM at q; rw [uI_o (by omega), uI_o (by omega), uI_o (by omega), uI_o (by omega)]
    · unfold rXM at q; rw [uI_o (by omega), uI_o (by omega), uI_o (by omega), uI_o (by omega)]
    · simp only [uI_o (r := uI (uI (uI r 37 w x) 36 1 (nI (w + 1))) 102 (92 + w) x) (a := 102) (k := 6) (b := 11) (j := 9) (by omega), uI_at]
      rw [if_neg (by omega), if_neg (by omega), if_neg (by omega), if_neg (by omega), if_neg (by omega), if_neg (by omega), if_neg (by omega)]; exact y1
    · simp only [uI_at]
      rw [if_neg (by omega), if_neg (by omega), if_neg (by omega), if_neg (by omega), if_neg (by omega), if_neg (by omega), if_neg (by omega), if_neg (by omega)]; exact y2
    · simp only [uI_at]
      rw [if_neg (by omega), if_neg (by omega), if_neg (by omega), if_neg (by omega), if_neg (by omega), if_neg (by omega), if_neg (by omega), if_neg (by omega)]; exact y3
    · rw [uI_o (by omega), uI_o (by omega), uI_o (by omega), uI_o (by omega)]
    · rw [uI_o (by omega), uI_o (by omega), uI_o (by omega), uI_o (by omega)]
    · refine ⟨by omega, ?_, uI_e, fun k hk => ?_⟩
      · rw [uI_o (by omega), uI_o (by omega), uI_e]
      · rw [uI_o (by omega), uI_o (by omega), uI_o (by omega), uI_at, uI_o (by omega), uI_at]
        by_cases q : k = w
        · rw [if_pos ⟨rfl, q⟩, if_pos ⟨rfl, by omega⟩]
        · rw [if_neg (by omega), if_neg (by omega), uI_o (by omega), uI_o (by omega)]
          exact w4 k (by omega)
end PRP
