/-! the model reads -/
def ruP : Nat → Nat → Prop := fun a k => a = 101 ∧ (k = 5 ∨ k = 7 ∨ k = 8)
def rU (b : Nat → Nat) (n u base : Nat) (x y z : Int32) (r : Nat → Nat → Int32) : Prop := r 101 4 = nI base ∧ r 101 6 = nI n ∧ r 101 9 = nI u ∧ (∀ k, k < n → r 102 (base + k) = nI (b k) ∧ b k < 256) ∧ n ≤ 50 ∧ base ≤ 212 ∧ u < 2 ∧ r 105 0 = x ∧ r 105 1 = y ∧ r 105 2 = z
def rV (p o : Nat) (r : Nat → Nat → Int32) : Prop := r 101 5 = nI p ∧ r 101 7 = -1 ∧ r 101 8 = nI o
def ruO (E : pEv) (n o lo : Nat) (r : Nat → Nat → Int32) (W : (Option Value → pH → Prop) → Prop) (x : Nat ⊕ (Nat × List Int32 × Int32)) : Prop := match x with
  | .inl f => f ≤ n ∧ ∃ r' w, sE ruP r r' ∧ r' 101 7 = nI f ∧ ∀ Q, W Q = Q (some (.int w)) (mkH E r')
  | .inr y => lo ≤ y.1 ∧ y.1 ≤ n ∧ ∃ r', sE ruP r r' ∧ rV y.1 o r' ∧ ∀ Q, W Q = Q (some (.int y.2.2)) (mkH E r')
theorem ruO_pre {E : pEv} {n o lo lo1 : Nat} {r r1 : Nat → Nat → Int32} {W W1 : (Option Value → pH → Prop) → Prop} {x : Nat ⊕ (Nat × List Int32 × Int32)} (h : ruO E n o lo1 r1 W1 x) (hW : ∀ Q, W Q = W1 Q) (hs : sE ruP r r1) (hl : lo ≤ lo1) : ruO E n o lo r W x := by
  cases x with
  | inl f =>
    obtain ⟨hf, r', w, s1, e1, q1⟩ := h
    exact ⟨hf, r', w, sE_tr hs s1, e1, fun Q => (hW Q).trans (q1 Q)⟩
  | inr y =>
    obtain ⟨a1, a2, r', s1, e1, q1⟩ := h
    exact ⟨by omega, a2, r', sE_tr hs s1, e1, fun Q => (hW Q).trans (q1 Q)⟩
def ruC (E : pEv) (b : Nat → Nat) (n u base : Nat) (x y z : Int32) (m o d : Nat) (s : Rd) : Prop := ∀ p r, rU b n u base x y z r → rV p o r → p ≤ n → ruO E n o (p + 1) r (wX d m [.ref 101] (mkH E r)) (s p)
section RM
variable {d : Nat} {E : pEv} {b : Nat → Nat} {n u base p o : Nat} {r r' : Nat → Nat → Int32} {Q : Option Value → pH → Prop} {x y z : Int32}
theorem rU_s (h : rU b n u base x y z r) (s : sE ruP r r') : rU b n u base x y z r' := by
  obtain ⟨h1, h2, h3, h4, h5, h6, h7, h8, h9, h10⟩ := h
  refine ⟨?_, ?_, ?_, fun k hk => ?_, h5, h6, h7, ?_, ?_, ?_⟩
  · rw [s _ _ (by unfold ruP; omega)]; exact h1
  · rw [s _ _ (by unfold ruP; omega)]; exact h2
  · rw [s _ _ (by unfold ruP; omega)]; exact h3
  · rw [s _ _ (by unfold ruP; omega)]; exact h4 k hk
  · rw [s _ _ (by unfold ruP; omega)]; exact h8
  · rw [s _ _ (by unfold ruP; omega)]; exact h9
  · rw [s _ _ (by unfold ruP; omega)]; exact h10
theorem rU_c (h : rU b n u base x y z r) (p : Nat) : hr b n p < 256 ∨ hr b n p = 999 := hr_c (fun k hk => (h.2.2.2.1 k hk).2) p
theorem rV_at {q : Nat} (h : rV p o r) : rV q o (uI r 101 5 (nI q)) := by
  obtain ⟨h1, h2, h3⟩ := h
  refine ⟨?_, ?_, ?_⟩
  · rw [uI_at, if_pos ⟨rfl, rfl⟩]
  · rw [uI_at, if_neg (by omega)]; exact h2
  · rw [uI_at, if_neg (by omega)]; exact h3
theorem ruP5 {v : Int32} : sE ruP r (uI r 101 5 v) := sE_u ⟨rfl, Or.inl rfl⟩
theorem ruP8 {v : Int32} : sE ruP r (uI r 101 8 v) := sE_u ⟨rfl, Or.inr (Or.inr rfl)⟩
theorem ruP7 {v : Int32} : sE ruP r (uI r 101 7 v) := sE_u ⟨rfl, Or.inr (Or.inl rfl)⟩
theorem ru_here (s_E : oE E) (hU : rU b n u base x y z r) (hV : rV p o r) (hp : p ≤ n) : wX (d + 1) 160 [.ref 101] (mkH E r) Q = Q (some (.int (hI (hr b n p)))) (mkH E r) := by
  obtain ⟨h1, h2, h3, h4, h5, h6, h7, h8⟩ := hU
  obtain ⟨g1, g2, g3⟩ := hV
  refine (x_X10_here s_E (fun h _ => ?_)).trans ?_
  · rw [h1, g1, nI_add, nI_clamp (by omega)]
    rw [g1, h2] at h
    have hpn : p < n := (nI_ltI (by omega) (by omega)).mp h
    exact ⟨nI_pos (by omega), by omega⟩
  · unfold f_X10_here hr hI
    rw [g1, h2, g2, h1]
    by_cases q : p < n
    · rw [if_pos (nI_lt q (by omega)), if_pos (by decide), if_pos q, if_pos (h4 p q).2, nI_add, nI_clamp (by omega), (h4 p q).1]
    · rw [if_neg (nI_nlt (by omega) (by omega)), if_neg q]
      rfl
theorem ru_hereF (s_E : oE E) {f : Nat} (hf : f < 2 ^ 31) (h7 : r 101 7 = nI f) : wX (d + 1) 160 [.ref 101] (mkH E r) Q = Q (some (.int (-1))) (mkH E r) := by
  have hn : ¬ r 101 7 < 0 := by rw [h7]; exact nI_pos hf
  refine (x_X10_here s_E (fun _ h => absurd h hn)).trans ?_
  unfold f_X10_here
  rw [if_neg hn]
  split <;> rfl
theorem ru_takes (s_E : oE E) (hU : rU b n u base x y z r) (hV : rV p o r) (hp : p ≤ n) {k : Nat} (hk : k < 256) : wX (d + 2) 162 [.ref 101, .int (nI k)] (mkH E r) Q = if hr b n p = k then Q (some (.int 1)) (mkH E (uI r 101 5 (nI (p + 1)))) else Q (some (.int 0)) (mkH E r) := by
  refine (en_X10_takes (d := d + 1) s_E).trans ?_
  refine (ru_here (d := d) s_E hU hV hp).trans ?_
  refine (sg_X10_takes_4 (d := d + 1) s_E).trans ?_
  rw [hV.1, ← nI_succ]
  have e := hI_eq (rU_c hU p) hk
  simp only [e]
theorem ru_takesF (s_E : oE E) {f : Nat} (hf : f < 2 ^ 31) (h7 : r 101 7 = nI f) {k : Nat} (hk : k < 256) : wX (d + 2) 162 [.ref 101, .int (nI k)] (mkH E r) Q = Q (some (.int 0)) (mkH E r) := by
  refine (en_X10_takes (d := d + 1) s_E).trans ?_
  refine (ru_hereF (d := d) s_E hf h7).trans ?_
  refine (sg_X10_takes_4 (d := d + 1) s_E).trans ?_
  have : ∀ k, k < 256 → ¬ (-1 : Int32) = nI k := by decide +kernel
  rw [if_neg (this k hk)]
theorem ru_wr (s_E : oE E) (hV : rV p o r) : wX (d + 1) 161 [.ref 101] (mkH E r) Q = Q (some (.int 0)) (mkH E (uI r 101 7 (nI p))) := by
  refine (en_X10_wrong s_E).trans ?_
  rw [hV.2.1, if_pos (by decide), hV.1]
theorem ru_wrF (s_E : oE E) {f : Nat} (hf : f < 2 ^ 31) (h7 : r 101 7 = nI f) : wX (d + 1) 161 [.ref 101] (mkH E r) Q = Q (some (.int 0)) (mkH E (uI r 101 7 (nI f))) := by
  refine (en_X10_wrong s_E).trans ?_
  rw [h7, if_neg (nI_pos hf)]
theorem ru_lp {l : Nat} {s : Rd} {m D : Nat} {P : Int32 → Value × Value → (Nat → Nat → Int32) → (Option Value → pH → Prop) → Prop} {C : Int32 → Nat → Value × Value → Option Value → pH → (Option Value → pH → Prop) → Prop}
    (hs : ruC E b n u base x y z m o D s)
    (hF : ∀ v j r f, f < 2 ^ 31 → r 101 7 = nI f → ∀ Q, P v j r Q = Q (some (.int v)) (mkH E r))
    (hE : ∀ v j r p, rU b n u base x y z r → rV p o r → p ≤ n → lev (hr b n p) ≠ l → ∀ Q, P v j r Q = Q (some (.int v)) (mkH E r))
    (hG : ∀ v j r p, rU b n u base x y z r → rV p o r → p ≤ n → lev (hr b n p) = l → ∀ Q, P v j r Q = wX D m [.ref 101] (mkH E (uI r 101 5 (nI (p + 1)))) (fun v' h' => C v (hr b n p) j v' h' Q))
    (hC : ∀ v c j w r', lev c = l → ∃ j', ∀ Q, C v c j (some (.int w)) (mkH E r') Q = P (f_X1_joined (nI c) v w) j' r' Q) (hl : l < 9) :
    ∀ k p c2 v j r, n < p + k → rU b n u base x y z r → rV p o r → p ≤ n → ruO E n o p r (P v j r) (lpR b n l s k p c2 v) := by
  intro k
  induction k with
  | zero => intro p c2 v j r h1 _ _ h2; omega
  | succ k ih =>
    intro p c2 v j r hk hU hV hp
    have h50 := hU.2.2.2.2.1
    unfold lpR
    by_cases q : lev (hr b n p) = l
    · rw [if_pos q]
      have h9 : hr b n p ≠ 999 := fun e => by rw [e, show lev 999 = 9 from by decide] at q; omega
      have hpn : p < n := hr_lt h9
      have h1 := hs (p + 1) _ (rU_s hU (ruP5 (v := nI (p + 1)))) (rV_at hV) hpn
      cases hsp : s (p + 1) with
      | inl f =>
        rw [hsp] at h1
        obtain ⟨hf, r', w, s2, e2, q2⟩ := h1
        obtain ⟨j', hj'⟩ := hC v (hr b n p) j w r' q
        refine ⟨hf, r', f_X1_joined (nI (hr b n p)) v w, sE_tr ruP5 s2, e2, fun Q => ?_⟩
        rw [hG v j r p hU hV hp q, q2, hj', hF _ _ _ f (by omega) e2]
      | inr yy =>
        obtain ⟨q3, cc, w⟩ := yy
        rw [hsp] at h1
        obtain ⟨a1, a2, r2, s2, t2, q2⟩ := h1
        have a1 : p + 1 + 1 ≤ q3 := a1
        obtain ⟨j', hj'⟩ := hC v (hr b n p) j w r2 q
        refine ruO_pre (ih q3 _ _ j' r2 (by omega) (rU_s hU (sE_tr ruP5 s2)) t2 a2) (fun Q => ?_) (sE_tr ruP5 s2) (by omega)
        rw [hG v j r p hU hV hp q, q2, hj']
    · rw [if_neg q]
      exact ⟨Nat.le_refl _, hp, r, sE_rf, hV, hE v j r p hU hV hp q⟩
theorem ru_lv {l : Nat} {s : Rd} {m D M D1 : Nat} {P : Int32 → Value × Value → (Nat → Nat → Int32) → (Option Value → pH → Prop) → Prop} {C : Int32 → Nat → Value × Value → Option Value → pH → (Option Value → pH → Prop) → Prop} {S : Option Value → pH → (Option Value → pH → Prop) → Prop}
    (hs : ruC E b n u base x y z m o D s)
    (hA : ∀ r Q, wX D1 M [.ref 101] (mkH E r) Q = wX D m [.ref 101] (mkH E r) (fun v h' => S v h' Q))
    (hB : ∀ w r', ∃ j, ∀ Q, S (some (.int w)) (mkH E r') Q = P w j r' Q)
    (hF : ∀ v j r f, f < 2 ^ 31 → r 101 7 = nI f → ∀ Q, P v j r Q = Q (some (.int v)) (mkH E r))
    (hE : ∀ v j r p, rU b n u base x y z r → rV p o r → p ≤ n → lev (hr b n p) ≠ l → ∀ Q, P v j r Q = Q (some (.int v)) (mkH E r))
    (hG : ∀ v j r p, rU b n u base x y z r → rV p o r → p ≤ n → lev (hr b n p) = l → ∀ Q, P v j r Q = wX D m [.ref 101] (mkH E (uI r 101 5 (nI (p + 1)))) (fun v' h' => C v (hr b n p) j v' h' Q))
    (hC : ∀ v c j w r', lev c = l → ∃ j', ∀ Q, C v c j (some (.int w)) (mkH E r') Q = P (f_X1_joined (nI c) v w) j' r' Q) (hl : l < 9) : ruC E b n u base x y z M o D1 (lvR b n l 50 s) := by
  intro p r hU hV hp
  have h50 := hU.2.2.2.2.1
  have h1 := hs p r hU hV hp
  unfold lvR
  cases hsp : s p with
  | inl f =>
    rw [hsp] at h1
    obtain ⟨hf, r', w, s2, e2, q2⟩ := h1
    obtain ⟨j', hj'⟩ := hB w r'
    refine ⟨hf, r', w, s2, e2, fun Q => ?_⟩
    rw [hA, q2, hj', hF _ _ _ f (by omega) e2]
  | inr yy =>
    obtain ⟨q, cc, w⟩ := yy
    rw [hsp] at h1
    obtain ⟨a1, a2, r2, s2, t2, q2⟩ := h1
    have a1 : p + 1 ≤ q := a1
    obtain ⟨j', hj'⟩ := hB w r2
    refine ruO_pre (ru_lp hs hF hE hG hC hl 50 q cc w j' r2 (by omega) (rU_s hU s2) t2 a2) (fun Q => ?_) s2 a1
    rw [hA, q2, hj']
theorem lev0 {c : Nat} : lev c = 0 ↔ c = 124 := by
  unfold lev
  (repeat' split) <;> omega
theorem lev1 {c : Nat} : lev c = 1 ↔ c = 38 := by
  unfold lev
  (repeat' split) <;> omega
theorem lev2 {c : Nat} : lev c = 2 ↔ c = 60 ∨ c = 61 ∨ c = 62 := by
  unfold lev
  (repeat' split) <;> omega
theorem lev3 {c : Nat} : lev c = 3 ↔ c = 43 ∨ c = 45 := by
  unfold lev
  (repeat' split) <;> omega
theorem lev4 {c : Nat} : lev c = 4 ↔ c = 42 ∨ c = 47 ∨ c = 37 := by
  unfold lev
  (repeat' split) <;> omega
theorem ru_product (s_E : oE E) {s : Rd} {D : Nat} (hs : ruC E b n u base x y z 169 o (D + 1) s) : ruC E b n u base x y z 168 o (D + 2) (lvR b n 4 50 s) := by
  refine ru_lv (P := fun v j r Q => wG (D + 1) 168 (5, [.ref 101, .int v, j.1, j.2], [], mkH E r) Q) (C := fun v c j w h' Q => wG (D + 1) 168 (51, [.ref 101, .int v, .int (nI c), j.2], pv w [], h') Q) hs (fun r Q => en_X10_product (d := D + 1) s_E) (fun w r' => ⟨(.retAddr 0, .retAddr 0), fun Q => sg_X10_product_4 (d := D + 1) s_E⟩) (fun v j r f hf h7 Q => ?_) (fun v j r p hU hV hp hl Q => ?_) (fun v j r p hU hV hp hl Q => ?_) (fun v c j w r' hl => ?_) (by decide)
  · refine (sg_X10_product_5 (d := D + 1) s_E).trans ?_
    refine (ru_hereF s_E hf h7).trans ?_
    refine (sg_X10_product_9 (d := D + 1) s_E).trans ?_
    rw [if_neg (by decide)]
    refine (ru_hereF s_E hf h7).trans ?_
    refine (sg_X10_product_18 (d := D + 1) s_E).trans ?_
    rw [if_neg (by decide)]
    refine (ru_hereF s_E hf h7).trans ?_
    refine (sg_X10_product_27 (d := D + 1) s_E).trans ?_
    rw [if_neg (by decide)]
  · have hc := rU_c hU p
    have hl : ¬ (hr b n p = 42 ∨ hr b n p = 47 ∨ hr b n p = 37) := fun h => hl (lev4.mpr h)
    have e42 : (hI (hr b n p) = 42) = (hr b n p = 42) := hI_eq hc (by decide)
    have e47 : (hI (hr b n p) = 47) = (hr b n p = 47) := hI_eq hc (by decide)
    have e37 : (hI (hr b n p) = 37) = (hr b n p = 37) := hI_eq hc (by decide)
    refine (sg_X10_product_5 (d := D + 1) s_E).trans ?_
    refine (ru_here s_E hU hV hp).trans ?_
    refine (sg_X10_product_9 (d := D + 1) s_E).trans ?_
    rw [if_neg (by rw [e42]; omega)]
    refine (ru_here s_E hU hV hp).trans ?_
    refine (sg_X10_product_18 (d := D + 1) s_E).trans ?_
    rw [if_neg (by rw [e47]; omega)]
    refine (ru_here s_E hU hV hp).trans ?_
    refine (sg_X10_product_27 (d := D + 1) s_E).trans ?_
    rw [if_neg (by rw [e37]; omega)]
  · have hc := rU_c hU p
    have hl := lev4.mp hl
    have e42 : (hI (hr b n p) = 42) = (hr b n p = 42) := hI_eq hc (by decide)
    have e47 : (hI (hr b n p) = 47) = (hr b n p = 47) := hI_eq hc (by decide)
    have e37 : (hI (hr b n p) = 37) = (hr b n p = 37) := hI_eq hc (by decide)
    have fin : wX (D + 1) 160 [.ref 101] (mkH E r) (fun v' h' => wG (D + 1) 168 (36, [.ref 101, .int v, j.1, j.2], pv v' [], h') Q) = wX (D + 1) 169 [.ref 101] (mkH E (uI r 101 5 (nI (p + 1)))) (fun v' h' => wG (D + 1) 168 (51, [.ref 101, .int v, .int (nI (hr b n p)), j.2], pv v' [], h') Q) := by
      refine (ru_here s_E hU hV hp).trans ?_
      refine (sg_X10_product_36 (d := D + 1) s_E).trans ?_
      rw [hV.1, ← nI_succ, hI_n (by omega)]
    refine (sg_X10_product_5 (d := D + 1) s_E).trans ?_
    refine (ru_here s_E hU hV hp).trans ?_
    refine (sg_X10_product_9 (d := D + 1) s_E).trans ?_
    by_cases h1 : hr b n p = 42
    · rw [if_pos (by rw [e42]; exact h1)]
      exact fin
    · rw [if_neg (by rw [e42]; exact h1)]
      refine (ru_here s_E hU hV hp).trans ?_
      refine (sg_X10_product_18 (d := D + 1) s_E).trans ?_
      by_cases h2 : hr b n p = 47
      · rw [if_pos (by rw [e47]; exact h2)]
        exact fin
      · rw [if_neg (by rw [e47]; exact h2)]
        refine (ru_here s_E hU hV hp).trans ?_
        refine (sg_X10_product_27 (d := D + 1) s_E).trans ?_
        rw [if_pos (by rw [e37]; omega)]
        exact fin
  · refine ⟨(.int (nI c), .int w), fun Q => ?_⟩
    refine (sg_X10_product_51 (d := D + 1) s_E).trans ?_
    rcases lev4.mp hl with rfl | rfl | rfl
    · rfl
    · rw [if_neg (by decide)]
      show _ = wG (D + 1) 168 (5, [.ref 101, .int (if w = 0 then 0 else v / w), .int (nI 47), .int w], [], mkH E r') Q
      by_cases hw : w = 0
      · rw [if_pos hw, if_pos hw]
      · rw [if_neg hw, if_neg hw, if_pos (by decide)]
    · rw [if_neg (by decide)]
      show _ = wG (D + 1) 168 (5, [.ref 101, .int (if w = 0 then 0 else v - v / w * w), .int (nI 37), .int w], [], mkH E r') Q
      by_cases hw : w = 0
      · rw [if_pos hw, if_pos hw]
      · rw [if_neg hw, if_neg hw, if_neg (by decide)]
theorem ru_sum (s_E : oE E) {s : Rd} {D : Nat} (hs : ruC E b n u base x y z 168 o (D + 1) s) : ruC E b n u base x y z 167 o (D + 2) (lvR b n 3 50 s) := by
  refine ru_lv (P := fun v j r Q => wG (D + 1) 167 (5, [.ref 101, .int v, j.1, j.2], [], mkH E r) Q) (C := fun v c j w h' Q => wG (D + 1) 167 (42, [.ref 101, .int v, .int (nI c), j.2], pv w [], h') Q) hs (fun r Q => en_X10_sum (d := D + 1) s_E) (fun w r' => ⟨(.retAddr 0, .retAddr 0), fun Q => sg_X10_sum_4 (d := D + 1) s_E⟩) (fun v j r f hf h7 Q => ?_) (fun v j r p hU hV hp hl Q => ?_) (fun v j r p hU hV hp hl Q => ?_) (fun v c j w r' hl => ?_) (by decide)
  · refine (sg_X10_sum_5 (d := D + 1) s_E).trans ?_
    refine (ru_hereF s_E hf h7).trans ?_
    refine (sg_X10_sum_9 (d := D + 1) s_E).trans ?_
    rw [if_neg (by decide)]
    refine (ru_hereF s_E hf h7).trans ?_
    refine (sg_X10_sum_18 (d := D + 1) s_E).trans ?_
    rw [if_neg (by decide)]
  · have hc := rU_c hU p
    have hl : ¬ (hr b n p = 43 ∨ hr b n p = 45) := fun h => hl (lev3.mpr h)
    have e43 : (hI (hr b n p) = 43) = (hr b n p = 43) := hI_eq hc (by decide)
    have e45 : (hI (hr b n p) = 45) = (hr b n p = 45) := hI_eq hc (by decide)
    refine (sg_X10_sum_5 (d := D + 1) s_E).trans ?_
    refine (ru_here s_E hU hV hp).trans ?_
    refine (sg_X10_sum_9 (d := D + 1) s_E).trans ?_
    rw [if_neg (by rw [e43]; omega)]
    refine (ru_here s_E hU hV hp).trans ?_
    refine (sg_X10_sum_18 (d := D + 1) s_E).trans ?_
    rw [if_neg (by rw [e45]; omega)]
  · have hc := rU_c hU p
    have hl := lev3.mp hl
    have e43 : (hI (hr b n p) = 43) = (hr b n p = 43) := hI_eq hc (by decide)
    have e45 : (hI (hr b n p) = 45) = (hr b n p = 45) := hI_eq hc (by decide)
    have fin : wX (D + 1) 160 [.ref 101] (mkH E r) (fun v' h' => wG (D + 1) 167 (27, [.ref 101, .int v, j.1, j.2], pv v' [], h') Q) = wX (D + 1) 168 [.ref 101] (mkH E (uI r 101 5 (nI (p + 1)))) (fun v' h' => wG (D + 1) 167 (42, [.ref 101, .int v, .int (nI (hr b n p)), j.2], pv v' [], h') Q) := by
      refine (ru_here s_E hU hV hp).trans ?_
      refine (sg_X10_sum_27 (d := D + 1) s_E).trans ?_
      rw [hV.1, ← nI_succ, hI_n (by omega)]
    refine (sg_X10_sum_5 (d := D + 1) s_E).trans ?_
    refine (ru_here s_E hU hV hp).trans ?_
    refine (sg_X10_sum_9 (d := D + 1) s_E).trans ?_
    by_cases h1 : hr b n p = 43
    · rw [if_pos (by rw [e43]; exact h1)]
      exact fin
    · rw [if_neg (by rw [e43]; exact h1)]
      refine (ru_here s_E hU hV hp).trans ?_
      refine (sg_X10_sum_18 (d := D + 1) s_E).trans ?_
      rw [if_pos (by rw [e45]; omega)]
      exact fin
  · refine ⟨(.int (nI c), .int w), fun Q => ?_⟩
    refine (sg_X10_sum_42 (d := D + 1) s_E).trans ?_
    rcases lev3.mp hl with rfl | rfl
    · rfl
    · rfl
theorem ru_both (s_E : oE E) {s : Rd} {D : Nat} (hs : ruC E b n u base x y z 166 o (D + 2) s) : ruC E b n u base x y z 165 o (D + 3) (lvR b n 1 50 s) := by
  refine ru_lv (P := fun v j r Q => wG (D + 2) 165 (5, [.ref 101, .int v, j.1], [], mkH E r) Q) (C := fun v c j w h' Q => wG (D + 2) 165 (18, [.ref 101, .int v, j.1], pv w [], h') Q) hs (fun r Q => en_X10_both (d := D + 2) s_E) (fun w r' => ⟨(.retAddr 0, .retAddr 0), fun Q => sg_X10_both_4 (d := D + 2) s_E⟩) (fun v j r f hf h7 Q => ?_) (fun v j r p hU hV hp hl Q => ?_) (fun v j r p hU hV hp hl Q => ?_) (fun v c j w r' hl => ?_) (by decide)
  · refine (sg_X10_both_5 (d := D + 2) s_E).trans ?_
    refine (ru_takesF (k := 38) s_E hf h7 (by decide)).trans ?_
    refine (sg_X10_both_11 (d := D + 2) s_E).trans ?_
    rw [if_pos rfl]
  · have hl : ¬ hr b n p = 38 := fun h => hl (lev1.mpr h)
    refine (sg_X10_both_5 (d := D + 2) s_E).trans ?_
    refine (ru_takes (k := 38) s_E hU hV hp (by decide)).trans ?_
    rw [if_neg hl]
    refine (sg_X10_both_11 (d := D + 2) s_E).trans ?_
    rw [if_pos rfl]
  · have hl : hr b n p = 38 := lev1.mp hl
    refine (sg_X10_both_5 (d := D + 2) s_E).trans ?_
    refine (ru_takes (k := 38) s_E hU hV hp (by decide)).trans ?_
    rw [if_pos hl]
    refine (sg_X10_both_11 (d := D + 2) s_E).trans ?_
    rw [if_neg (by decide)]
  · refine ⟨(.int w, .retAddr 0), fun Q => ?_⟩
    refine (sg_X10_both_18 (d := D + 2) s_E).trans ?_
    have hl := lev1.mp hl
    subst hl
    show _ = wG (D + 2) 165 (5, [.ref 101, .int (if v = 0 then 0 else if w = 0 then 0 else 1), _], [], mkH E r') Q
    split
    · rfl
    · split <;> rfl
theorem ru_either (s_E : oE E) {s : Rd} {D : Nat} (hs : ruC E b n u base x y z 165 o (D + 2) s) : ruC E b n u base x y z 164 o (D + 3) (lvR b n 0 50 s) := by
  refine ru_lv (P := fun v j r Q => wG (D + 2) 164 (5, [.ref 101, .int v, j.1], [], mkH E r) Q) (C := fun v c j w h' Q => wG (D + 2) 164 (18, [.ref 101, .int v, j.1], pv w [], h') Q) hs (fun r Q => en_X10_either (d := D + 2) s_E) (fun w r' => ⟨(.retAddr 0, .retAddr 0), fun Q => sg_X10_either_4 (d := D + 2) s_E⟩) (fun v j r f hf h7 Q => ?_) (fun v j r p hU hV hp hl Q => ?_) (fun v j r p hU hV hp hl Q => ?_) (fun v c j w r' hl => ?_) (by decide)
  · refine (sg_X10_either_5 (d := D + 2) s_E).trans ?_
    refine (ru_takesF (k := 124) s_E hf h7 (by decide)).trans ?_
    refine (sg_X10_either_11 (d := D + 2) s_E).trans ?_
    rw [if_pos rfl]
  · have hl : ¬ hr b n p = 124 := fun h => hl (lev0.mpr h)
    refine (sg_X10_either_5 (d := D + 2) s_E).trans ?_
    refine (ru_takes (k := 124) s_E hU hV hp (by decide)).trans ?_
    rw [if_neg hl]
    refine (sg_X10_either_11 (d := D + 2) s_E).trans ?_
    rw [if_pos rfl]
  · have hl : hr b n p = 124 := lev0.mp hl
    refine (sg_X10_either_5 (d := D + 2) s_E).trans ?_
    refine (ru_takes (k := 124) s_E hU hV hp (by decide)).trans ?_
    rw [if_pos hl]
    refine (sg_X10_either_11 (d := D + 2) s_E).trans ?_
    rw [if_neg (by decide)]
  · refine ⟨(.int w, .retAddr 0), fun Q => ?_⟩
    refine (sg_X10_either_18 (d := D + 2) s_E).trans ?_
    have hl := lev0.mp hl
    subst hl
    show _ = wG (D + 2) 164 (5, [.ref 101, .int (if v = 0 then (if w = 0 then 0 else 1) else 1), _], [], mkH E r') Q
    split
    · split <;> rfl
    · rfl
theorem jo60 {v w : Int32} : f_X1_joined (nI 60) v w = if v < w then 1 else 0 := by
  unfold f_X1_joined
  rw [if_neg (show ¬ nI 60 = 38 from by decide), if_neg (show ¬ nI 60 = 42 from by decide), if_neg (show ¬ nI 60 = 43 from by decide), if_neg (show ¬ nI 60 = 45 from by decide), if_neg (show ¬ nI 60 = 47 from by decide), if_pos (show nI 60 = 60 from by decide)]
theorem jo61 {v w : Int32} : f_X1_joined (nI 61) v w = if v = w then 1 else 0 := by
  unfold f_X1_joined
  rw [if_neg (show ¬ nI 61 = 38 from by decide), if_neg (show ¬ nI 61 = 42 from by decide), if_neg (show ¬ nI 61 = 43 from by decide), if_neg (show ¬ nI 61 = 45 from by decide), if_neg (show ¬ nI 61 = 47 from by decide), if_neg (show ¬ nI 61 = 60 from by decide), if_pos (show nI 61 = 61 from by decide)]
theorem jo62 {v w : Int32} : f_X1_joined (nI 62) v w = if w < v then 1 else 0 := by
  unfold f_X1_joined
  rw [if_neg (show ¬ nI 62 = 38 from by decide), if_neg (show ¬ nI 62 = 42 from by decide), if_neg (show ¬ nI 62 = 43 from by decide), if_neg (show ¬ nI 62 = 45 from by decide), if_neg (show ¬ nI 62 = 47 from by decide), if_neg (show ¬ nI 62 = 60 from by decide), if_neg (show ¬ nI 62 = 61 from by decide), if_pos (show nI 62 = 62 from by decide)]
theorem ru_compared (s_E : oE E) {s : Rd} {D : Nat} (hs : ruC E b n u base x y z 167 o (D + 1) s) : ruC E b n u base x y z 166 o (D + 2) (lvR b n 2 1 s) := by
  intro p r hU hV hp
  have h50 := hU.2.2.2.2.1
  have h1 := hs p r hU hV hp
  have pre : ∀ Q, wX (D + 2) 166 [.ref 101] (mkH E r) Q = _ := fun Q => en_X10_compared (d := D + 1) s_E
  unfold lvR
  cases hsp : s p with
  | inl f =>
    rw [hsp] at h1
    obtain ⟨hf, r', w, s2, e2, q2⟩ := h1
    refine ⟨hf, r', w, s2, e2, fun Q => ?_⟩
    rw [pre]
    refine (q2 _).trans ?_
    refine (sg_X10_compared_4 (d := D + 1) s_E).trans ?_
    refine (ru_hereF (f := f) s_E (by omega) e2).trans ?_
    refine (sg_X10_compared_9 (d := D + 1) s_E).trans ?_
    rw [if_neg (by decide), if_neg (by decide), if_neg (by decide)]
  | inr yy =>
    obtain ⟨q, cc, v⟩ := yy
    rw [hsp] at h1
    obtain ⟨a1, a2, r2, s2, t2, q2⟩ := h1
    have a1 : p + 1 ≤ q := a1
    have a2 : q ≤ n := a2
    have hU2 := rU_s hU s2
    have hc := rU_c hU2 q
    have e60 : (hI (hr b n q) = 60) = (hr b n q = 60) := hI_eq hc (by decide)
    have e61 : (hI (hr b n q) = 61) = (hr b n q = 61) := hI_eq hc (by decide)
    have e62 : (hI (hr b n q) = 62) = (hr b n q = 62) := hI_eq hc (by decide)
    show ruO E n o (p + 1) r _ (if lev (hr b n q) = 2 then (match s (q + 1) with
      | .inl f => .inl f
      | .inr (q', c2, w) => .inr (q', cc ++ c2 ++ [-nI (hr b n q)], f_X1_joined (nI (hr b n q)) v w)) else .inr (q, cc, v))
    by_cases hl : lev (hr b n q) = 2
    · rw [if_pos hl]
      have hl3 := lev2.mp hl
      have hqn : q < n := hr_lt (b := b) (by omega)
      have h3 := hs (q + 1) _ (rU_s hU2 (ruP5 (v := nI (q + 1)))) (rV_at t2) hqn
      have pr2 : ∀ Q, wX (D + 2) 166 [.ref 101] (mkH E r) Q = wX (D + 1) 167 [.ref 101] (mkH E (uI r2 101 5 (nI (q + 1)))) (fun v' h' => wG (D + 1) 166 (44, [.ref 101, .int v, .int (nI (hr b n q)), .retAddr 0], pv v' [], h') Q) := by
        intro Q
        rw [pre]
        refine (q2 _).trans ?_
        refine (sg_X10_compared_4 (d := D + 1) s_E).trans ?_
        refine (ru_here s_E hU2 t2 a2).trans ?_
        refine (sg_X10_compared_9 (d := D + 1) s_E).trans ?_
        rw [t2.1, ← nI_succ]
        have e60 : (hI (hr b n q) = 60) = (hr b n q = 60) := e60
        simp only [e60, e61, e62]
        rw [hI_n (by omega)]
        rcases hl3 with h | h | h
        · rw [if_pos h]
        · rw [if_neg (by omega), if_pos h]
        · rw [if_neg (by omega), if_neg (by omega), if_pos h]
      cases hsq : s (q + 1) with
      | inl f =>
        rw [hsq] at h3
        obtain ⟨hf, r', w, s3, e3, q3⟩ := h3
        have : ∃ w', ∀ Q, wX (D + 2) 166 [.ref 101] (mkH E r) Q = Q (some (.int w')) (mkH E r') := by
          refine ⟨if nI (hr b n q) = 60 then (if v < w then 1 else 0) else if nI (hr b n q) = 61 then (if v = w then 1 else 0) else if w < v then 1 else 0, fun Q => ?_⟩
          rw [pr2]
          refine (q3 _).trans ?_
          refine (sg_X10_compared_44 (d := D + 1) s_E).trans ?_
          simp only [q_i]
        obtain ⟨w', hw'⟩ := this
        exact ⟨hf, r', w', sE_tr s2 (sE_tr ruP5 s3), e3, hw'⟩
      | inr y3 =>
        obtain ⟨q', c3, w⟩ := y3
        rw [hsq] at h3
        obtain ⟨a3, a4, r3, s3, t3, q3⟩ := h3
        have a3 : q + 1 + 1 ≤ q' := a3
        refine ⟨by show p + 1 ≤ q'; omega, a4, r3, sE_tr s2 (sE_tr ruP5 s3), t3, fun Q => ?_⟩
        rw [pr2]
        refine (q3 _).trans ?_
        refine (sg_X10_compared_44 (d := D + 1) s_E).trans ?_
        simp only [q_i]
        show Q (some (.int _)) _ = Q (some (.int (f_X1_joined (nI (hr b n q)) v w))) _
        rcases hl3 with h | h | h
        · rw [h, jo60, if_pos (show nI 60 = 60 from by decide)]
        · rw [h, jo61, if_neg (show ¬ nI 61 = 60 from by decide), if_pos (show nI 61 = 61 from by decide)]
        · rw [h, jo62, if_neg (show ¬ nI 62 = 60 from by decide), if_neg (show ¬ nI 62 = 61 from by decide)]
    · rw [if_neg hl]
      have hl3 : ¬ (hr b n q = 60 ∨ hr b n q = 61 ∨ hr b n q = 62) := fun h => hl (lev2.mpr h)
      refine ⟨a1, a2, r2, s2, t2, fun Q => ?_⟩
      rw [pre]
      refine (q2 _).trans ?_
      refine (sg_X10_compared_4 (d := D + 1) s_E).trans ?_
      refine (ru_here s_E hU2 t2 a2).trans ?_
      refine (sg_X10_compared_9 (d := D + 1) s_E).trans ?_
      have e60 : (hI (hr b n q) = 60) = (hr b n q = 60) := e60
      simp only [e60, e61, e62]
      rw [if_neg (by omega), if_neg (by omega), if_neg (by omega)]
theorem ru_tt (s_E : oE E) {s : Rd} {D : Nat} (hs : ruC E b n u base x y z 169 o (D + 1) s) : ruC E b n u base x y z 164 o (D + 6) (ttR b n s) :=
  ru_either (D := D + 3) s_E (ru_both (D := D + 2) s_E (ru_compared (D := D + 2) s_E (ru_sum (D := D + 1) s_E (ru_product s_E hs))))
end RM
