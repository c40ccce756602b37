/-! WHAT BOTH SIDES HOLD: the class's cells and the model's -/
def rTC : Nat → Nat → Prop := fun a k => (a = 11 ∧ (k = 7 ∨ k = 8)) ∨ (13 ≤ a ∧ a ≤ 20) ∨ a = 32 ∨ a = 33
def rXC : Nat → Prop := fun a => a = 22 ∨ (25 ≤ a ∧ a ≤ 27) ∨ a = 30 ∨ a = 31
def rYC : Nat → Nat → Prop := fun a k => (a = 11 ∧ 9 ≤ k ∧ k ≤ 11) ∨ (34 ≤ a ∧ a ≤ 37)
def rTM : Nat → Prop := fun k => k = 0 ∨ k = 2 ∨ (10 ≤ k ∧ k ≤ 86)
def rXM : Nat → Prop := fun k => k = 90 ∨ k = 91 ∨ (112 ≤ k ∧ k < 212)
def rYM : Nat → Prop := fun k => k = 1 ∨ (3 ≤ k ∧ k ≤ 6) ∨ (92 ≤ k ∧ k < 112) ∨ (212 ≤ k ∧ k < 262)
/-- the tape, what waits -/
def tpR (n : Nat) (b : Nat → Nat) (rc rm : Nat → Nat → Int32) : Prop := n ≤ 50 ∧ (∀ k, k < n → b k < 256) ∧ rc 34 1 = nI n ∧ rm 102 5 = nI n ∧ (∀ k, k < n → rc 35 k = nI (b k)) ∧ ∀ k, k < n → rm 102 (212 + k) = nI (b k)
def wtR (w : Nat) (rc rm : Nat → Nat → Int32) : Prop := w ≤ 20 ∧ rc 36 1 = nI w ∧ rm 102 6 = nI w ∧ ∀ k, k < w → rc 37 k = rm 102 (92 + k)
def yR (rc rm : Nat → Nat → Int32) : Prop := (rc 11 9 = rm 102 3 ∧ rc 11 10 = rm 102 4 ∧ rc 11 11 = rm 102 1) ∧ (∃ n b, tpR n b rc rm) ∧ ∃ w, wtR w rc rm
def PI (t : Th) (X : Tx) (rc rm : Nat → Nat → Int32) : Prop := tC t rc ∧ xC X rc ∧ tM t rm ∧ xM X rm ∧ yR rc rm
def PInv (rc rm : Nat → Nat → Int32) : Prop := ∃ t X, tOK t ∧ xOK X ∧ PI t X rc rm
section FRM
variable {r r' rc rc' rm rm' : Nat → Nat → Int32} {t : Th} {X : Tx}
theorem tC_f (hC : tC t r) (hn : t.n ≤ 7) (e : ∀ a k, rTC a k → r' a k = r a k) : tC t r' := by
  obtain ⟨h1, h2, h3, h4, h5, h6, h7, h8, h9, h10, h11, h12, h13, h14, h15⟩ := hC
  refine ⟨?_, ?_, ?_, ?_, ?_, ?_, ?_, ?_, ?_, ?_, ?_, ?_, ?_, ?_, ?_⟩
  · rw [e _ _ (by unfold rTC; omega)]; exact h1
  · intro i hi; rw [e _ _ (by unfold rTC; omega)]; exact h2 i hi
  · intro i hi; rw [e _ _ (by unfold rTC; omega)]; exact h3 i hi
  · intro i hi; rw [e _ _ (by unfold rTC; omega)]; exact h4 i hi
  · intro i hi; rw [e _ _ (by unfold rTC; omega)]; exact h5 i hi
  · intro i hi; rw [e _ _ (by unfold rTC; omega)]; exact h6 i hi
  · intro i hi; rw [e _ _ (by unfold rTC; omega)]; exact h7 i hi
  · intro i hi; rw [e _ _ (by unfold rTC; omega)]; exact h8 i hi
  · intro i hi hp; rw [e _ _ (by unfold rTC; omega)]; exact h9 i hi hp
  · intro i hi hp; rw [e _ _ (by unfold rTC; omega)]; exact h10 i hi hp
  · intro i hi; rw [e _ _ (by unfold rTC; omega)]; exact h11 i hi
  · rw [e _ _ (by unfold rTC; omega)]; exact h12
  · intro i hi; rw [e _ _ (by unfold rTC; omega)]; exact h13 i hi
  · rw [e _ _ (by unfold rTC; omega)]; exact h14
  · rw [e _ _ (by unfold rTC; omega)]; exact h15
theorem tM_f (hM : tM t r) (hn : t.n ≤ 7) (e : ∀ k, rTM k → r' 102 k = r 102 k) : tM t r' := by
  obtain ⟨h1, h3, h4, h5, h6, h7, h8, h9, h10, h11, h13, h14⟩ := hM
  refine ⟨?_, ?_, ?_, ?_, ?_, ?_, ?_, ?_, ?_, ?_, ?_, ?_⟩
  · rw [e _ (by unfold rTM; omega)]; exact h1
  · intro i hi; rw [e _ (by unfold rTM; omega)]; exact h3 i hi
  · intro i hi; rw [e _ (by unfold rTM; omega)]; exact h4 i hi
  · intro i hi; rw [e _ (by unfold rTM; omega)]; exact h5 i hi
  · intro i hi; rw [e _ (by unfold rTM; omega)]; exact h6 i hi
  · intro i hi; rw [e _ (by unfold rTM; omega)]; exact h7 i hi
  · intro i hi; rw [e _ (by unfold rTM; omega)]; exact h8 i hi
  · intro i hi hp; rw [e _ (by unfold rTM; omega)]; exact h9 i hi hp
  · intro i hi hp; rw [e _ (by unfold rTM; omega)]; exact h10 i hi hp
  · intro i hi; rw [e _ (by unfold rTM; omega)]; exact h11 i hi
  · intro i hi; rw [e _ (by unfold rTM; omega)]; exact h13 i hi
  · rw [e _ (by unfold rTM; omega)]; exact h14
theorem xC_f (hX : xC X r) (e : ∀ a k, rXC a → r' a k = r a k) : xC X r' := by
  refine ⟨fun u hu => ?_, fun u hu => ?_⟩
  · obtain ⟨h1, h2⟩ := hX.1 u hu
    refine ⟨?_, fun k hk => ?_⟩
    · rw [e _ _ (by unfold rXC; omega)]; exact h1
    · rw [e _ _ (by unfold rXC; omega)]; exact h2 k hk
  · rw [e _ _ (by unfold rXC; omega)]; exact hX.2 u hu
theorem xM_f (xo : xOK X) (hX : xM X r) (e : ∀ k, rXM k → r' 102 k = r 102 k) : xM X r' := by
  intro u hu
  obtain ⟨h1, h2⟩ := hX u hu
  have hn := (xo u hu).1
  refine ⟨?_, fun k hk => ?_⟩
  · rw [e _ (by unfold rXM; omega)]; exact h1
  · rw [e _ (by unfold rXM; omega)]; exact h2 k hk
theorem tp_f {n : Nat} {b : Nat → Nat} (h : tpR n b rc rm) (e : ∀ a k, a = 34 ∨ a = 35 → rc' a k = rc a k) (e2 : ∀ k, k = 5 ∨ (212 ≤ k ∧ k < 262) → rm' 102 k = rm 102 k) : tpR n b rc' rm' := by
  obtain ⟨h1, h2, h3, h4, h5, h6⟩ := h
  refine ⟨h1, h2, ?_, ?_, fun k hk => ?_, fun k hk => ?_⟩
  · rw [e _ _ (by omega)]; exact h3
  · rw [e2 _ (by omega)]; exact h4
  · rw [e _ _ (by omega)]; exact h5 k hk
  · rw [e2 _ (by omega)]; exact h6 k hk
theorem wt_f {w : Nat} (h : wtR w rc rm) (e : ∀ a k, a = 36 ∨ a = 37 → rc' a k = rc a k) (e2 : ∀ k, k = 6 ∨ (92 ≤ k ∧ k < 112) → rm' 102 k = rm 102 k) : wtR w rc' rm' := by
  obtain ⟨h1, h2, h3, h4⟩ := h
  refine ⟨h1, ?_, ?_, fun k hk => ?_⟩
  · rw [e _ _ (by omega)]; exact h2
  · rw [e2 _ (by omega)]; exact h3
  · rw [e _ _ (by omega), e2 _ (by omega)]; exact h4 k hk
theorem yR_f (h : yR rc rm) (e : ∀ a k, rYC a k → rc' a k = rc a k) (e2 : ∀ k, rYM k → rm' 102 k = rm 102 k) : yR rc' rm' := by
  obtain ⟨⟨h1, h2, h3⟩, ⟨n, b, h4⟩, w, h5⟩ := h
  refine ⟨⟨?_, ?_, ?_⟩, ⟨n, b, tp_f h4 (fun a k q => e a k (by unfold rYC; omega)) (fun k q => e2 k (by unfold rYM; omega))⟩, w, wt_f h5 (fun a k q => e a k (by unfold rYC; omega)) (fun k q => e2 k (by unfold rYM; omega))⟩
  · rw [e _ _ (by unfold rYC; omega), e2 _ (by unfold rYM; omega)]; exact h1
  · rw [e _ _ (by unfold rYC; omega), e2 _ (by unfold rYM; omega)]; exact h2
  · rw [e _ _ (by unfold rYC; omega), e2 _ (by unfold rYM; omega)]; exact h3
def rPC : Nat → Nat → Prop := fun a k => (a = 11 ∧ 7 ≤ k ∧ k ≤ 11) ∨ (13 ≤ a ∧ a ≤ 20) ∨ a = 22 ∨ (25 ≤ a ∧ a ≤ 27) ∨ (30 ≤ a ∧ a ≤ 37)
theorem PI_f (ok : tOK t) (xo : xOK X) (h : PI t X rc rm) (e : ∀ a k, rPC a k → rc' a k = rc a k) (e2 : ∀ k, k < 262 → rm' 102 k = rm 102 k) : PI t X rc' rm' := by
  obtain ⟨h1, h2, h3, h4, h5⟩ := h
  exact ⟨tC_f h1 ok.n (fun a k q => e a k (by unfold rTC at q; unfold rPC; omega)), xC_f h2 (fun a k q => e a k (by unfold rXC at q; unfold rPC; omega)), tM_f h3 ok.n (fun k q => e2 k (by unfold rTM at q; omega)), xM_f xo h4 (fun k q => e2 k (by unfold rXM at q; omega)), yR_f h5 (fun a k q => e a k (by unfold rYC at q; unfold rPC; omega)) (fun k q => e2 k (by unfold rYM at q; omega))⟩
theorem PInv_f (h : PInv rc rm) (e : ∀ a k, rPC a k → rc' a k = rc a k) (e2 : ∀ k, k < 262 → rm' 102 k = rm 102 k) : PInv rc' rm' := by
  obtain ⟨t, X, ok, xo, h⟩ := h
  exact ⟨t, X, ok, xo, PI_f ok xo h e e2⟩
end FRM
/-- the image kept -/
def kc (r : Nat → Nat → Int32) : Nat → Nat → Int32 := fun a => r (a + 27)
def km (r : Nat → Nat → Int32) : Nat → Nat → Int32 := fun _ => r 103
def kR (r : Nat → Nat → Int32) : Prop := r 10 8 = r 101 2 ∧ (r 10 8 ≠ 0 → PInv (kc r) (km r)) ∧ (∀ i, i < 7 → r (40 + i) 0 = nI i) ∧ r 47 1 = nI 4 ∧ (∀ u, u < 2 → r (49 + 5 * u) 0 = nI u)
def eR (r : Nat → Nat → Int32) : Prop := ∀ k, 1 ≤ k → k ≤ 5 → r 100 (k - 1) = r 104 k
def vR (r : Nat → Nat → Int32) : Prop := ∃ c, c ≤ 40 ∧ r 85 1 = nI c ∧ r 101 19 = nI c ∧ ∀ i, i < c → r 86 i = r 111 i
/-- a sheet -/
def shR (s z bi : Nat) (r : Nat → Nat → Int32) : Prop := z ≤ 40 ∧ (bi = 0 ∨ bi = 8 ∨ bi = 16 ∨ bi = 32) ∧ r (88 + 3 * s) 1 = nI bi ∧ r 112 s = nI bi ∧ r (89 + 3 * s) 1 = nI z ∧ r 113 s = nI z ∧ ∀ k, k < z → r (90 + 3 * s) k = r 114 (40 * s + k)
def hR (r : Nat → Nat → Int32) : Prop := ∀ s, s < 4 → ∃ z bi, shR s z bi r
def Inv (r : Nat → Nat → Int32) : Prop := PInv r r ∧ kR r ∧ eR r ∧ vR r ∧ hR r ∧ czz r
section INV
variable {d : Nat} {E : pEv} {r r' r1 r2 : Nat → Nat → Int32} {t : Th} {X : Tx}
theorem kR_f (h : kR r) (e : ∀ a k, (a = 10 ∧ k = 8) ∨ (a = 101 ∧ k = 2) ∨ (38 ≤ a ∧ a ≤ 64) ∨ a = 103 → r' a k = r a k) : kR r' := by
  obtain ⟨h1, h2, h3, h4, h5⟩ := h
  refine ⟨?_, fun q => ?_, fun i hi => ?_, ?_, fun u hu => ?_⟩
  · rw [e _ _ (by omega), e _ _ (by omega)]; exact h1
  · rw [e _ _ (by omega)] at q
    exact PInv_f (h2 q) (fun a k w => e _ _ (by unfold rPC at w; omega)) (fun k w => e _ _ (by omega))
  · rw [e _ _ (by omega)]; exact h3 i hi
  · rw [e _ _ (by omega)]; exact h4
  · rw [e _ _ (by omega)]; exact h5 u hu
theorem eR_f (h : eR r) (e : ∀ a k, a = 100 ∨ a = 104 → r' a k = r a k) : eR r' := fun k h1 h2 => by
  rw [e _ _ (by omega), e _ _ (by omega)]; exact h k h1 h2
theorem vR_f (h : vR r) (e : ∀ a k, (a = 85 ∧ k = 1) ∨ a = 86 ∨ a = 111 ∨ (a = 101 ∧ k = 19) → r' a k = r a k) : vR r' := by
  obtain ⟨c, h1, h2, h3, h4⟩ := h
  refine ⟨c, h1, ?_, ?_, fun i hi => ?_⟩
  · rw [e _ _ (by omega)]; exact h2
  · rw [e _ _ (by omega)]; exact h3
  · rw [e _ _ (by omega), e _ _ (by omega)]; exact h4 i hi
theorem sh_f {s z bi : Nat} (h : shR s z bi r) (hs : s < 4) (e : ∀ a k, (88 + 3 * s ≤ a ∧ a ≤ 90 + 3 * s) ∨ ((a = 112 ∨ a = 113) ∧ k = s) ∨ (a = 114 ∧ 40 * s ≤ k ∧ k < 40 * s + 40) → r' a k = r a k) : shR s z bi r' := by
  obtain ⟨h1, h2, h3, h4, h5, h6, h7⟩ := h
  refine ⟨h1, h2, ?_, ?_, ?_, ?_, fun k hk => ?_⟩
  · rw [e _ _ (by omega)]; exact h3
  · rw [e _ _ (by omega)]; exact h4
  · rw [e _ _ (by omega)]; exact h5
  · rw [e _ _ (by omega)]; exact h6
  · rw [e _ _ (by omega), e _ _ (by omega)]; exact h7 k hk
theorem hR_f (h : hR r) (e : ∀ a k, (88 ≤ a ∧ a ≤ 99) ∨ (112 ≤ a ∧ a ≤ 114) → r' a k = r a k) : hR r' := fun s hs => by
  obtain ⟨z, bi, q⟩ := h s hs
  exact ⟨z, bi, sh_f q hs (fun a k w => e a k (by omega))⟩
theorem cz_f (h : czz r) (e : ∀ a, a = 66 ∨ a = 68 ∨ a = 70 ∨ a = 72 ∨ a = 74 → r' a 1 = r a 1) : czz r' := by
  obtain ⟨h1, h2, h3, h4, h5⟩ := h
  refine ⟨?_, ?_, ?_, ?_, ?_⟩ <;> rw [e _ (by omega)] <;> assumption
/-- all but the play: not touched by a change of cells 11 to 37, of scratch, of 102 -/
def rsR : Nat → Nat → Prop := fun a k => (a = 10 ∧ k = 8) ∨ (a = 101 ∧ (k = 2 ∨ k = 19)) ∨ (38 ≤ a ∧ a ≤ 64) ∨ a = 103 ∨ a = 100 ∨ a = 104 ∨ (a = 85 ∧ k = 1) ∨ a = 86 ∨ a = 111 ∨ (88 ≤ a ∧ a ≤ 99) ∨ (112 ≤ a ∧ a ≤ 114) ∨ (k = 1 ∧ (a = 66 ∨ a = 68 ∨ a = 70 ∨ a = 72 ∨ a = 74))
theorem Inv_play (h : Inv r) (hp : PInv r' r') (e : ∀ a k, rsR a k → r' a k = r a k) : Inv r' := by
  obtain ⟨_, h2, h3, h4, h5, h6⟩ := h
  exact ⟨hp, kR_f h2 (fun a k q => e a k (by unfold rsR; omega)), eR_f h3 (fun a k q => e a k (by unfold rsR; omega)), vR_f h4 (fun a k q => e a k (by unfold rsR; omega)), hR_f h5 (fun a k q => e a k (by unfold rsR; omega)), cz_f h6 (fun a q => e a 1 (by unfold rsR; omega))⟩
def rIn : Nat → Nat → Prop := fun a k => rPC a k ∨ (a = 102 ∧ k < 262) ∨ rsR a k
theorem Inv_f (h : Inv r) (e : ∀ a k, rIn a k → r' a k = r a k) : Inv r' := Inv_play h (PInv_f h.1 (fun a k q => e a k (Or.inl q)) (fun k q => e 102 k (Or.inr (Or.inl ⟨rfl, q⟩)))) (fun a k q => e a k (Or.inr (Or.inr q)))
theorem Inv_e (h : Inv r) {k : Nat} (hk : 1 ≤ k ∧ k ≤ 5) : Inv (eM (eC r k) k) := by
  have e : ∀ a j, a ≠ 100 → a ≠ 104 → eM (eC r k) k a j = r a j := fun a j h1 h2 => by
    unfold eM eC
    rw [uI_at, if_neg (by omega), uI_at, if_neg (by omega)]
  obtain ⟨h1, h2, h3, h4, h5, h6⟩ := h
  refine ⟨PInv_f h1 (fun a j q => e a j (by unfold rPC at q; omega) (by unfold rPC at q; omega)) (fun j _ => e _ _ (by omega) (by omega)), kR_f h2 (fun a j q => e a j (by omega) (by omega)), fun j j1 j2 => ?_, vR_f h4 (fun a j q => e a j (by omega) (by omega)), hR_f h5 (fun a j q => e a j (by omega) (by omega)), cz_f h6 (fun a q => e a 1 (by omega) (by omega))⟩
  have q1 : eM (eC r k) k 100 (j - 1) = if j - 1 = k - 1 then r 100 (k - 1) + 1 else r 100 (j - 1) := by
    unfold eM eC
    rw [uI_at, if_neg (by omega), uI_at]
    by_cases c : j - 1 = k - 1
    · rw [if_pos ⟨rfl, c⟩, if_pos c]
    · rw [if_neg (fun w => c w.2), if_neg c]
  have q2 : eM (eC r k) k 104 j = if j = k then r 104 k + 1 else r 104 j := by
    unfold eM eC
    rw [uI_at]
    have z : ∀ j, uI r 100 (k - 1) (r 100 (k - 1) + 1) 104 j = r 104 j := fun j => by rw [uI_at, if_neg (by omega)]
    by_cases c : j = k
    · rw [if_pos ⟨rfl, c⟩, if_pos c, z]
    · rw [if_neg (fun w => c w.2), if_neg c, z]
  rw [q1, q2]
  by_cases c : j = k
  · rw [if_pos c, if_pos (by omega), h3 k hk.1 hk.2]
  · rw [if_neg c, if_neg (by omega), h3 j j1 j2]
/-- a step: both sides answer the same and hold the same again -/
def stI (E : pEv) (d : Nat) (r : Nat → Nat → Int32) (mc : Nat) (ac : List Value) (mm : Nat) (am : List Value) : Prop := ∃ v r1 r2, (∀ Q, wX (d + 70) mc ac (mkH E r) Q = Q (some (.int v)) (mkH E r1)) ∧ (∀ Q, wX (d + 70) mm am (mkH E r1) Q = Q (some (.int v)) (mkH E r2)) ∧ Inv r2
theorem mkH_i {ro ro' : Nat → Nat → Int32} (h : mkH E ro = mkH E ro') : ∀ a, 10 ≤ a → ro a = ro' a := fun a ha => by
  have e := congrFun (congrArg (fun h : pH => h.2.2.2) h) a
  have e2 : (if a < 10 then exI E.2.1 a else ro a) = if a < 10 then exI E.2.1 a else ro' a := e
  rwa [if_neg (by omega), if_neg (by omega)] at e2
/-- what a call answers, and to which state -/
def vlR : Int32 ⊕ Nat → Int32
  | .inl v => v
  | .inr k => er k
def sEk (P : Nat → Nat → Prop) (r r' : Nat → Nat → Int32) : Prop := ∀ a k, 10 ≤ a → ¬ P a k → r' a k = r a k
theorem Inv_sc (h : Inv r) (s : sE SC r r') : Inv r' := Inv_f h (fun a k q => s a k (by unfold rIn rPC rsR at q; unfold SC; omega))
theorem Inv_sm (h : Inv r) (s : sE SM r r') : Inv r' := Inv_f h (fun a k q => s a k (by unfold rIn rPC rsR at q; unfold SM; omega))
theorem Inv_10 (h : Inv r) (s : ∀ a, 10 ≤ a → r a = r' a) : Inv r' := Inv_f h (fun a k q => by rw [s a (by unfold rIn rPC rsR at q; omega)])
theorem wX_2 {W : (Option Value → pH → Prop) → Prop} {v v' : Int32} (h : ∀ Q, W Q = Q (some (.int v)) (mkH E r)) (h' : ∀ Q, W Q = Q (some (.int v')) (mkH E r')) : v = v' ∧ mkH E r = mkH E r' := by
  have q := (h (fun a b => a = some (.int v') ∧ b = mkH E r')).symm.trans (h' _)
  have q2 := q.mpr ⟨rfl, rfl⟩
  refine ⟨?_, q2.2⟩
  have q3 := q2.1
  injection q3 with q4
  injection q4
theorem RO_st (hI : Inv r) {mc mm : Nat} {ac am : List Value} (h : ∀ t X, tOK t → xOK X → RO d E t X mc ac mm am) : stI E d r mc ac mm am := by
  obtain ⟨⟨t, X, ok, xo, hC, hX, hM, hXM, hy⟩, _⟩ := id hI
  have hz := hI.2.2.2.2.2
  have ro := h t X ok xo
  -- the class's answer, whatever the model starts from
  have key : ∀ r1, tM t r1 → xM X r1 → ∃ v ra rb, (∀ Q, wX (d + 70) mc ac (mkH E r) Q = Q (some (.int v)) (mkH E ra)) ∧ (∀ Q, wX (d + 70) mm am (mkH E r1) Q = Q (some (.int v)) (mkH E rb)) ∧ (sE SC r ra ∧ sE SM r1 rb ∨ ∃ k r' r2', (1 ≤ k ∧ k ≤ 5) ∧ sE SC r r' ∧ ra = eC r' k ∧ sE SM r1 r2' ∧ rb = eM r2' k) := by
    intro r1 h1 h2
    obtain ⟨res, c, m⟩ := ro r r1 hC hX hz h1 h2
    rcases res with v | k
    · obtain ⟨ra, s1, e1⟩ := c
      obtain ⟨rb, s2, e2⟩ := m
      exact ⟨v, ra, rb, e1, e2, Or.inl ⟨s1, s2⟩⟩
    · obtain ⟨hk, ra, s1, e1⟩ := c
      obtain ⟨_, rb, s2, e2⟩ := m
      exact ⟨er k, eC ra k, eM rb k, e1, e2, Or.inr ⟨k, ra, rb, hk, s1, rfl, s2, rfl⟩⟩
  obtain ⟨v0, ra0, _, c0, _, o0⟩ := key r hM hXM
  have tm : tM t ra0 ∧ xM X ra0 := by
    have f : ∀ k, ra0 102 k = r 102 k := by
      intro k
      rcases o0 with ⟨s1, _⟩ | ⟨j, r', _, _, s1, e, _⟩
      · exact s1 102 k (by unfold SC; omega)
      · rw [e]
        unfold eC
        rw [uI_at, if_neg (by omega)]
        exact s1 102 k (by unfold SC; omega)
    exact ⟨hM.fr (funext f), xM_f xo hXM (fun k _ => f k)⟩
  obtain ⟨v, ra, rb, c, m, o⟩ := key ra0 tm.1 tm.2
  obtain ⟨_, em⟩ := wX_2 c0 c
  have e10 := mkH_i em
  refine ⟨v, ra0, rb, fun Q => (c Q).trans (by rw [em]), m, ?_⟩
  rcases o with ⟨s1, s2⟩ | ⟨k, r', r2', hk, s1, e, s2, e2⟩
  · exact Inv_sm (Inv_10 (Inv_sc hI s1) (fun a ha => (e10 a ha).symm)) s2
  · have i1 := Inv_sm (r := eM (eC r' k) k) (Inv_e (Inv_sc hI s1) hk) (r' := fun a j => if a < 10 then eM (eC r' k) k a j else eM r2' k a j) (fun a j q => by
      show (if a < 10 then eM (eC r' k) k a j else eM r2' k a j) = _
      by_cases h10 : a < 10
      · rw [if_pos h10]
      · rw [if_neg h10]
        have z : ∀ b j, 10 ≤ b → ¬ SM b j → r2' b j = eC r' k b j := fun b j hb hq => by
          rw [s2 b j hq, e10 b hb, e]
        unfold eM
        rw [uI_at, uI_at, z a j (by omega) q, z 104 k (by omega) (by unfold SM; omega)])
    rw [e2]
    exact Inv_10 i1 (fun a ha => funext fun j => if_neg (by omega))
end INV
