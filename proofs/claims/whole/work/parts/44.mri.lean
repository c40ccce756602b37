/-! the model reads: the innermost, a whole text -/
section RN
variable {d : Nat} {E : pEv} {b : Nat → Nat} {n u base p o : Nat} {r r' : Nat → Nat → Int32} {Q : Option Value → pH → Prop} {x y z : Int32}
theorem in_dg {c : Nat} (h : c < 256 ∨ c = 999) : f_X10_in (hI c).toInt64 48 57 = if dg c then 1 else 0 := by
  have e : f_X10_in (hI c).toInt64 48 57 = f_X9_within (hI c) 48 57 := in_l (a := 48) (b := 57)
  rw [e]
  have : ∀ c, c < 256 → f_X9_within (hI c) 48 57 = if dg c then 1 else 0 := by decide +kernel
  rcases h with h | rfl
  · exact this c h
  · decide +kernel
theorem nb_e {c v : Nat} (h : dg c = true) : 10 * nI v + hI c - 48 = nI (10 * v + (c - 48)) := by
  have h48 := dg_48 h
  unfold hI
  rw [if_pos (by omega)]
  obtain ⟨w, rfl⟩ : ∃ w, c = w + 48 := ⟨c - 48, by omega⟩
  rw [show w + 48 - 48 = w by omega, ← nI_add, ← nI_add, show (48 : Int32) = nI 48 from rfl, ← Int32.add_assoc, Int32.add_sub_cancel]
  congr 1
  show Int32.ofNat 10 * Int32.ofNat v = Int32.ofNat (10 * v)
  rw [← Int32.ofNat_mul]
theorem ru_num (s_E : oE E) {x1 x2 : Int32} : ∀ k j p v r, j + k = 4 → 1 ≤ j → rU b n u base x y z r → rV p o r → p ≤ n → ∃ r', sE ruP r r' ∧ rV (nb b n k p v).1 o r' ∧ ∀ Q, wG (d + 1) 169 (150, [.ref 101, .int x1, .int x2, .int (nI v), .int (nI j)], [], mkH E r) Q = Q (some (.int (nI (nb b n k p v).2))) (mkH E r') := by
  intro k
  induction k with
  | zero =>
    intro j p v r hj h1 hU hV hp
    refine ⟨r, sE_rf, hV, fun Q => ?_⟩
    refine (sg_X10_unit_150 (d := d + 1) s_E).trans ?_
    rw [if_neg (show ¬ nI j < (4 : Int32) from @nI_nlt j 4 (by omega) (by omega)), if_neg (nI_ne0 (by omega) (by omega))]
    rfl
  | succ k ih =>
    intro j p v r hj h1 hU hV hp
    have hc := rU_c hU p
    have pre : ∀ Q, wG (d + 1) 169 (150, [.ref 101, .int x1, .int x2, .int (nI v), .int (nI j)], [], mkH E r) Q = wG (d + 1) 169 (170, [.ref 101, .int x1, .int x2, .int (nI v), .int (nI j)], [.int (if dg (hr b n p) then 1 else 0)], mkH E r) Q := by
      intro Q
      refine (sg_X10_unit_150 (d := d + 1) s_E).trans ?_
      rw [if_pos (show nI j < (4 : Int32) from @nI_lt j 4 (by omega) (by decide))]
      refine (ru_here s_E hU hV hp).trans ?_
      refine (sg_X10_unit_160 (d := d + 1) s_E).trans ?_
      refine (x_X10_in (d := d) s_E).trans ?_
      rw [in_dg hc]
      rfl
    unfold nb
    by_cases q : dg (hr b n p) = true
    · rw [if_pos q]
      have hpn : p < n := hr_lt (fun e => by rw [e] at q; exact absurd q (by decide))
      obtain ⟨r2, s2, t2, e2⟩ := ih (j + 1) (p + 1) (10 * v + (hr b n p - 48)) _ (by omega) (by omega) (rU_s hU (ruP5 (v := nI (p + 1)))) (rV_at hV) hpn
      refine ⟨r2, sE_tr ruP5 s2, t2, fun Q => ?_⟩
      rw [pre, if_pos q]
      refine (sg_X10_unit_170 (d := d + 1) s_E).trans ?_
      rw [if_neg (by decide)]
      refine (ru_here s_E hU hV hp).trans ?_
      refine (sg_X10_unit_181 (d := d + 1) s_E).trans ?_
      rw [nb_e q, hV.1, ← nI_succ, ← nI_succ]
      exact e2 Q
    · rw [if_neg q]
      refine ⟨r, sE_rf, hV, fun Q => ?_⟩
      rw [pre, if_neg q]
      refine (sg_X10_unit_170 (d := d + 1) s_E).trans ?_
      rw [if_pos rfl, if_neg (nI_ne0 (by omega) (by omega))]
theorem nm_q {c : Nat} (h : nm u c < 3) : c < 256 ∧ dg c = false ∧ c ≠ 33 ∧ c ≠ 40 := by
  unfold nm at h
  have : ∀ k, (k = 99 ∨ k = 108 ∨ k = 109 ∨ k = 103 ∨ k = 104 ∨ k = 114) → k < 256 ∧ dg k = false ∧ k ≠ 33 ∧ k ≠ 40 := by
    intro k hk
    rcases hk with rfl | rfl | rfl | rfl | rfl | rfl <;> decide
  refine this c ?_
  (repeat' split at h) <;> omega
theorem nmOf (hU : rU b n u base x y z r) {c : Nat} (hc : c < 256 ∨ c = 999) : f_X10_nameOf r (hI c) = if nm u c < 3 then nI (nm u c) else -1 := by
  have h7 := hU.2.2.2.2.2.2.1
  have h9 := hU.2.2.1
  have t : ∀ u, u < 2 → ∀ c, c < 256 → f_X10_nameOf (fun _ _ => nI u) (hI c) = if nm u c < 3 then nI (nm u c) else -1 := by decide +kernel
  have t2 : ∀ u, u < 2 → f_X10_nameOf (fun _ _ => nI u) (hI 999) = if nm u 999 < 3 then nI (nm u 999) else -1 := by decide +kernel
  have e : f_X10_nameOf r (hI c) = f_X10_nameOf (fun _ _ => nI u) (hI c) := by
    unfold f_X10_nameOf
    rw [h9]
  rw [e]
  rcases hc with h | rfl
  · exact t u h7 c h
  · exact t2 u h7
theorem ru_leaf (s_E : oE E) {W : (Option Value → pH → Prop) → Prop} (hU : rU b n u base x y z r) (hV : rV p o r) (hp : p ≤ n) (h33 : hr b n p ≠ 33) (h40 : hr b n p ≠ 40) : ruO E n o (p + 1) r (wX (d + 2) 169 [.ref 101] (mkH E r)) (if dg (hr b n p) then .inr ((nb b n 4 p 0).1, [nI (nb b n 4 p 0).2], nI (nb b n 4 p 0).2) else if nm u (hr b n p) < 3 then .inr (p + 1, [-1 - nI (nm u (hr b n p))], naR x y z (nm u (hr b n p))) else .inl p) := by
  have hc := rU_c hU p
  have e33 : (hI (hr b n p) = 33) = (hr b n p = 33) := hI_eq hc (by decide)
  have e40 : (hI (hr b n p) = 40) = (hr b n p = 40) := hI_eq hc (by decide)
  have pre : ∀ Q, wX (d + 2) 169 [.ref 101] (mkH E r) Q = wG (d + 1) 169 (123, [.ref 101, .int (hI (hr b n p)), .retAddr 0, .retAddr 0, .retAddr 0], [.int (if nm u (hr b n p) < 3 then nI (nm u (hr b n p)) else -1)], mkH E r) Q := by
    intro Q
    refine (en_X10_unit (d := d + 1) s_E).trans ?_
    refine (ru_here s_E hU hV hp).trans ?_
    refine (sg_X10_unit_4 (d := d + 1) s_E).trans ?_
    rw [if_neg (by rw [e33]; exact h33), if_neg (by rw [e40]; exact h40)]
    refine (x_X10_nameOf (d := d) s_E).trans ?_
    rw [nmOf hU hc]
    rfl
  by_cases q2 : nm u (hr b n p) < 3
  · have hr2 := nm_q q2
    rw [if_neg (by rw [hr2.2.1]; decide), if_pos q2]
    have hpn : p < n := hr_lt (b := b) (by omega)
    refine ⟨Nat.le_refl _, hpn, _, ruP5 (v := nI (p + 1)), rV_at hV, fun Q => ?_⟩
    rw [pre, if_pos q2]
    refine (sg_X10_unit_123 (d := d + 1) s_E (fun _ => ix_n q2 (by decide))).trans ?_
    rw [if_neg (nI_pos (by omega)), hV.1, ← nI_succ, nI_clamp (by omega), uI_at, if_neg (by omega)]
    obtain ⟨-, -, -, -, -, -, -, n0, n1, n2⟩ := hU
    have : r 105 (nm u (hr b n p)) = naR x y z (nm u (hr b n p)) := by
      generalize nm u (hr b n p) = i at q2
      match i, q2 with
      | 0, _ => exact n0
      | 1, _ => exact n1
      | 2, _ => exact n2
      | i + 3, h => exact absurd h (by omega)
    rw [this]
  · have pr2 : ∀ Q, wX (d + 2) 169 [.ref 101] (mkH E r) Q = wG (d + 1) 169 (170, [.ref 101, .int (hI (hr b n p)), .int (-1), .int (nI 0), .int (nI 0)], [.int (if dg (hr b n p) then 1 else 0)], mkH E r) Q := by
      intro Q
      rw [pre, if_neg q2]
      refine (sg_X10_unit_123 (d := d + 1) s_E (fun h => absurd (by decide) h)).trans ?_
      rw [if_pos (by decide)]
      refine (sg_X10_unit_150 (d := d + 1) s_E).trans ?_
      rw [if_pos (by decide)]
      refine (ru_here s_E hU hV hp).trans ?_
      refine (sg_X10_unit_160 (d := d + 1) s_E).trans ?_
      refine (x_X10_in (d := d) s_E).trans ?_
      rw [in_dg hc]
      rfl
    by_cases q : dg (hr b n p) = true
    · rw [if_pos q]
      have hpn : p < n := hr_lt (fun e => by rw [e] at q; exact absurd q (by decide))
      obtain ⟨r2, s2, t2, e2⟩ := ru_num (d := d) (x1 := hI (hr b n p)) (x2 := -1) s_E 3 1 (p + 1) (10 * 0 + (hr b n p - 48)) _ (by omega) (by omega) (rU_s hU (ruP5 (v := nI (p + 1)))) (rV_at hV) hpn
      have hnb : nb b n 4 p 0 = nb b n 3 (p + 1) (10 * 0 + (hr b n p - 48)) := by
        show (if dg (hr b n p) then _ else _) = _
        rw [if_pos q]
      have hle := nb_le (b := b) (n := n) 3 (p + 1) (10 * 0 + (hr b n p - 48)) hpn
      rw [hnb]
      refine ⟨hle.1, hle.2, r2, sE_tr ruP5 s2, t2, fun Q => ?_⟩
      rw [pr2, if_pos q]
      refine (sg_X10_unit_170 (d := d + 1) s_E).trans ?_
      rw [if_neg (by decide)]
      refine (ru_here s_E hU hV hp).trans ?_
      refine (sg_X10_unit_181 (d := d + 1) s_E).trans ?_
      rw [nb_e q, hV.1, ← nI_succ, ← nI_succ]
      exact e2 Q
    · rw [if_neg q, if_neg q2]
      refine ⟨hp, _, 0, ruP7 (v := nI p), ?_, fun Q => ?_⟩
      · rw [uI_at, if_pos ⟨rfl, rfl⟩]
      · rw [pr2, if_neg q]
        refine (sg_X10_unit_170 (d := d + 1) s_E).trans ?_
        rw [if_pos rfl, if_pos (by decide)]
        refine (ru_wr (d := d) s_E hV).trans ?_
        exact sg_X10_unit_211 (d := d + 1) s_E
theorem dg_ne {c : Nat} (h : c = 33 ∨ c = 40) : dg c = false ∧ ¬ nm u c < 3 := by
  rcases h with rfl | rfl
  · refine ⟨by decide, ?_⟩
    unfold nm; split <;> decide
  · refine ⟨by decide, ?_⟩
    unfold nm; split <;> decide
theorem ru_un0 (s_E : oE E) : ∀ d, ruC E b n u base x y z 169 5 (d + 2) (inR b n u x y z 0) := by
  intro d p r hU hV hp
  unfold inR
  by_cases h : hr b n p = 33 ∨ hr b n p = 40
  · have hd := dg_ne (u := u) h
    rw [if_neg (by rw [hd.1]; decide), if_neg hd.2]
    have hc := rU_c hU p
    refine ⟨hp, _, 0, ruP7 (v := nI p), ?_, fun Q => ?_⟩
    · rw [uI_at, if_pos ⟨rfl, rfl⟩]
    · have fin : wX (d + 1) 161 [.ref 101] (mkH E r) (fun v h' => wG (d + 1) 169 (29, [.ref 101, .int (hI (hr b n p)), .retAddr 0, .retAddr 0, .retAddr 0], pv v [], h') Q) = Q (some (.int 0)) (mkH E (uI r 101 7 (nI p))) := by
        refine (ru_wr (d := d) s_E hV).trans ?_
        exact sg_X10_unit_29 (d := d + 1) s_E
      refine (en_X10_unit (d := d + 1) s_E).trans ?_
      refine (ru_here s_E hU hV hp).trans ?_
      refine (sg_X10_unit_4 (d := d + 1) s_E).trans ?_
      have e33 : (hI (hr b n p) = 33) = (hr b n p = 33) := hI_eq hc (by decide)
      have e40 : (hI (hr b n p) = 40) = (hr b n p = 40) := hI_eq hc (by decide)
      have e5 : r 101 8 = 5 := hV.2.2
      by_cases h3 : hr b n p = 33
      · rw [if_pos (by rw [e33]; exact h3), if_pos e5]
        exact fin
      · rw [if_neg (by rw [e33]; exact h3), if_pos (by rw [e40]; omega), if_pos e5]
        exact fin
  · have := ru_leaf (d := d) (W := fun _ => True) s_E hU hV hp (fun e => h (Or.inl e)) (fun e => h (Or.inr e))
    exact this
theorem rV_op (hV : rV p o r) (v : Int32) (o' : Nat) (h : v = nI o') : rV p o' (uI r 101 8 v) := by
  obtain ⟨h1, h2, h3⟩ := hV
  refine ⟨?_, ?_, ?_⟩
  · rw [uI_at, if_neg (by omega)]; exact h1
  · rw [uI_at, if_neg (by omega)]; exact h2
  · rw [uI_at, if_pos ⟨rfl, rfl⟩]; exact h
theorem ru_un1 (s_E : oE E) {k D : Nat} (ho : o < 5) (hN : ruC E b n u base x y z 169 (o + 1) (D + 2) (inR b n u x y z k)) (hL : ruC E b n u base x y z 164 (o + 1) (D + 2) (ttR b n (inR b n u x y z k))) : ruC E b n u base x y z 169 o (D + 3) (inR b n u x y z (k + 1)) := by
  intro p r hU hV hp
  have h50 := hU.2.2.2.2.1
  have hc := rU_c hU p
  have e33 : (hI (hr b n p) = 33) = (hr b n p = 33) := hI_eq hc (by decide)
  have e40 : (hI (hr b n p) = 40) = (hr b n p = 40) := hI_eq hc (by decide)
  have e5 : ¬ r 101 8 = 5 := by
    rw [hV.2.2]
    intro h
    have := (nI_eq (a := o) (b := 5) (by omega) (by decide)).mp h
    omega
  have e1 : (uI (uI r 101 8 (r 101 8 + 1)) 101 5 (((uI r 101 8 (r 101 8 + 1)) 101 5) + 1)) = uI (uI r 101 8 (nI (o + 1))) 101 5 (nI (p + 1)) := by
    rw [uI_at (k := 8), if_neg (by omega), hV.1, hV.2.2, ← nI_succ, ← nI_succ]
  have s1 : sE ruP r (uI (uI r 101 8 (nI (o + 1))) 101 5 (nI (p + 1))) := sE_tr ruP8 ruP5
  have t1 : rV (p + 1) (o + 1) (uI (uI r 101 8 (nI (o + 1))) 101 5 (nI (p + 1))) := rV_at (rV_op hV _ _ rfl)
  unfold inR
  by_cases h3 : hr b n p = 33
  · have hd := dg_ne (u := u) (Or.inl h3)
    rw [if_neg (by rw [hd.1]; decide), if_neg hd.2, if_pos h3]
    have hpn : p < n := hr_lt (b := b) (by omega)
    have pre : ∀ Q, wX (D + 3) 169 [.ref 101] (mkH E r) Q = wX (D + 2) 169 [.ref 101] (mkH E (uI (uI r 101 8 (nI (o + 1))) 101 5 (nI (p + 1)))) (fun v h' => wG (D + 2) 169 (67, [.ref 101, .int 33, .retAddr 0, .retAddr 0, .retAddr 0], pv v [], h') Q) := by
      intro Q
      refine (en_X10_unit (d := D + 2) s_E).trans ?_
      refine (ru_here s_E hU hV hp).trans ?_
      refine (sg_X10_unit_4 (d := D + 2) s_E).trans ?_
      have e33' : hI (hr b n p) = 33 := by rw [e33]; exact h3
      rw [e33', if_pos rfl, if_neg e5, if_neg (by decide), e1]
    have h1 := hN (p + 1) _ (rU_s hU s1) t1 hpn
    cases hsp : inR b n u x y z k (p + 1) with
    | inl f =>
      rw [hsp] at h1
      obtain ⟨hf, r', w, s2, e2, q2⟩ := h1
      refine ⟨hf, uI r' 101 8 (r' 101 8 - 1), if w = 0 then 1 else 0, sE_tr s1 (sE_tr s2 ruP8), ?_, fun Q => ?_⟩
      · rw [uI_at, if_neg (by omega)]; exact e2
      · rw [pre]
        refine (q2 _).trans ?_
        refine (sg_X10_unit_67 (d := D + 2) s_E).trans ?_
        rw [if_neg (by decide), if_neg (by decide)]
        simp only [q_i]
    | inr w =>
      obtain ⟨q, c2, v⟩ := w
      rw [hsp] at h1
      obtain ⟨a1, a2, r2, s2, t2, q2⟩ := h1
      have a1 : p + 1 + 1 ≤ q := a1
      have t2 : rV q (o + 1) r2 := t2
      refine ⟨by show p + 1 ≤ q; omega, a2, uI r2 101 8 (r2 101 8 - 1), sE_tr s1 (sE_tr s2 ruP8), rV_op t2 _ _ (by rw [t2.2.2, nI_pred]), fun Q => ?_⟩
      rw [pre]
      refine (q2 _).trans ?_
      refine (sg_X10_unit_67 (d := D + 2) s_E).trans ?_
      rw [if_neg (by decide), if_neg (by decide)]
      simp only [q_i]
  · by_cases h4 : hr b n p = 40
    · have hd := dg_ne (u := u) (Or.inr h4)
      rw [if_neg (by rw [hd.1]; decide), if_neg hd.2, if_neg h3, if_pos h4]
      have hpn : p < n := hr_lt (b := b) (by omega)
      have pre : ∀ Q, wX (D + 3) 169 [.ref 101] (mkH E r) Q = wX (D + 2) 164 [.ref 101] (mkH E (uI (uI r 101 8 (nI (o + 1))) 101 5 (nI (p + 1)))) (fun v h' => wG (D + 2) 169 (60, [.ref 101, .int 40, .retAddr 0, .retAddr 0, .retAddr 0], pv v [], h') Q) := by
        intro Q
        refine (en_X10_unit (d := D + 2) s_E).trans ?_
        refine (ru_here s_E hU hV hp).trans ?_
        refine (sg_X10_unit_4 (d := D + 2) s_E).trans ?_
        have e40' : hI (hr b n p) = 40 := by rw [e40]; exact h4
        rw [e40', if_neg (by decide), if_pos rfl, if_neg e5, if_pos rfl, e1]
      have h1 := hL (p + 1) _ (rU_s hU s1) t1 hpn
      cases hsp : ttR b n (inR b n u x y z k) (p + 1) with
      | inl f =>
        rw [hsp] at h1
        obtain ⟨hf, r', w, s2, e2, q2⟩ := h1
        refine ⟨hf, uI r' 101 7 (nI f), 0, sE_tr s1 (sE_tr s2 ruP7), ?_, fun Q => ?_⟩
        · rw [uI_at, if_pos ⟨rfl, rfl⟩]
        · rw [pre]
          refine (q2 _).trans ?_
          refine (sg_X10_unit_60 (d := D + 2) s_E).trans ?_
          rw [if_pos rfl]
          refine (ru_takesF (k := 41) (f := f) s_E (by omega) e2 (by decide)).trans ?_
          refine (sg_X10_unit_80 (d := D + 2) s_E).trans ?_
          rw [if_pos rfl]
          refine (ru_wrF (f := f) s_E (by omega) e2).trans ?_
          exact sg_X10_unit_87 (d := D + 2) s_E
      | inr w =>
        obtain ⟨q, c2, v⟩ := w
        rw [hsp] at h1
        obtain ⟨a1, a2, r2, s2, t2, q2⟩ := h1
        have a1 : p + 1 + 1 ≤ q := a1
        have a2 : q ≤ n := a2
        have t2 : rV q (o + 1) r2 := t2
        have hU2 := rU_s hU (sE_tr s1 s2)
        have pr2 : ∀ Q, wX (D + 3) 169 [.ref 101] (mkH E r) Q = if hr b n q = 41 then wG (D + 2) 169 (80, [.ref 101, .int 40, .int v, .retAddr 0, .retAddr 0], [.int 1], mkH E (uI r2 101 5 (nI (q + 1)))) Q else wG (D + 2) 169 (80, [.ref 101, .int 40, .int v, .retAddr 0, .retAddr 0], [.int 0], mkH E r2) Q := by
          intro Q
          rw [pre]
          refine (q2 _).trans ?_
          refine (sg_X10_unit_60 (d := D + 2) s_E).trans ?_
          rw [if_pos rfl]
          exact ru_takes (k := 41) s_E hU2 t2 a2 (by decide)
        show ruO E n o (p + 1) r _ (if hr b n q = 41 then .inr (q + 1, c2, v) else .inl q)
        by_cases q5 : hr b n q = 41
        · rw [if_pos q5]
          have hqn : q < n := hr_lt (by rw [q5]; decide)
          have t3 : rV (q + 1) (o + 1) (uI r2 101 5 (nI (q + 1))) := rV_at t2
          refine ⟨by show p + 1 ≤ q + 1; omega, hqn, _, sE_tr s1 (sE_tr s2 (sE_tr (ruP5 (v := nI (q + 1))) ruP8)), rV_op t3 ((uI r2 101 5 (nI (q + 1))) 101 8 - 1) o (by rw [t3.2.2, nI_pred]), fun Q => ?_⟩
          rw [pr2, if_pos q5]
          refine (sg_X10_unit_80 (d := D + 2) s_E).trans ?_
          rw [if_neg (by decide), if_pos rfl]
        · rw [if_neg q5]
          refine ⟨a2, _, 0, sE_tr s1 (sE_tr s2 (ruP7 (v := nI q))), ?_, fun Q => ?_⟩
          · rw [uI_at, if_pos ⟨rfl, rfl⟩]
          · rw [pr2, if_neg q5]
            refine (sg_X10_unit_80 (d := D + 2) s_E).trans ?_
            rw [if_pos rfl]
            refine (ru_wr s_E t2).trans ?_
            exact sg_X10_unit_87 (d := D + 2) s_E
    · have := ru_leaf (d := D + 1) (W := fun _ => True) s_E hU hV hp h3 h4
      rw [if_neg h3, if_neg h4]
      exact this
theorem ru_mono {m : Nat} {s : Rd} (h : ∀ d, ruC E b n u base x y z m o d s) (d : Nat) : ruC E b n u base x y z m o d s := h d
theorem ru_un (s_E : oE E) : ∀ k o, o + k = 5 → ∀ d, ruC E b n u base x y z 169 o (d + 7 * k + 2) (inR b n u x y z k) := by
  intro k
  induction k with
  | zero =>
    intro o ho d
    obtain rfl : o = 5 := by omega
    exact ru_un0 s_E (d + 7 * 0)
  | succ k ih =>
    intro o ho d
    have hN : ruC E b n u base x y z 169 (o + 1) (d + 7 * k + 6 + 2) (inR b n u x y z k) := by
      have := ih (o + 1) (by omega) (d + 6)
      rw [show d + 6 + 7 * k + 2 = d + 7 * k + 6 + 2 by omega] at this
      exact this
    have hL : ruC E b n u base x y z 164 (o + 1) (d + 7 * k + 6 + 2) (ttR b n (inR b n u x y z k)) := by
      have h2 : ruC E b n u base x y z 169 (o + 1) (d + 7 * k + 2 + 1) (inR b n u x y z k) := by
        have := ih (o + 1) (by omega) (d + 1)
        rw [show d + 1 + 7 * k + 2 = d + 7 * k + 2 + 1 by omega] at this
        exact this
      exact ru_tt (D := d + 7 * k + 2) s_E h2
    have := ru_un1 (D := d + 7 * k + 6) s_E (by omega) hN hL
    rw [show d + 7 * k + 6 + 3 = d + 7 * (k + 1) + 2 by omega] at this
    exact this
/-- a whole text worked out -/
theorem x_worked (s_E : oE E) (h4 : ∀ k, k < n → r 102 (base + k) = nI (b k) ∧ b k < 256) (hn : n ≤ 50) (hb : base ≤ 212) (hu : u < 2) (h8 : r 105 0 = x) (h9 : r 105 1 = y) (h10 : r 105 2 = z) : ∃ r', sE (fun a k => a = 101 ∧ 4 ≤ k ∧ k ≤ 9) r r' ∧ match txR b n u x y z with
    | .inl f => f ≤ n ∧ r' 101 7 = nI f ∧ ∃ w, ∀ Q, wX (d + 50) 170 [.ref 101, .int (nI base), .int (nI n), .int (nI u)] (mkH E r) Q = Q (some (.int w)) (mkH E r')
    | .inr w => r' 101 7 = -1 ∧ ∀ Q, wX (d + 50) 170 [.ref 101, .int (nI base), .int (nI n), .int (nI u)] (mkH E r) Q = Q (some (.int w.2)) (mkH E r') := by
  have s0 : sE (fun a k => a = 101 ∧ 4 ≤ k ∧ k ≤ 9) r (uI (uI (uI (uI (uI (uI r 101 4 (nI base)) 101 5 0) 101 6 (nI n)) 101 7 (-1)) 101 8 0) 101 9 (nI u)) :=
    sE_tr (sE_tr (sE_tr (sE_tr (sE_tr (sE_u ⟨rfl, by omega⟩) (sE_u ⟨rfl, by omega⟩)) (sE_u ⟨rfl, by omega⟩)) (sE_u ⟨rfl, by omega⟩)) (sE_u ⟨rfl, by omega⟩)) (sE_u ⟨rfl, by omega⟩)
  have hU : rU b n u base x y z (uI (uI (uI (uI (uI (uI r 101 4 (nI base)) 101 5 0) 101 6 (nI n)) 101 7 (-1)) 101 8 0) 101 9 (nI u)) := by
    refine ⟨?_, ?_, ?_, fun k hk => ?_, hn, hb, hu, ?_, ?_, ?_⟩
    · simp only [uI_at]; simp
    · simp only [uI_at]; simp
    · simp only [uI_at]; simp
    · rw [s0 _ _ (by omega)]; exact h4 k hk
    · rw [s0 _ _ (by omega)]; exact h8
    · rw [s0 _ _ (by omega)]; exact h9
    · rw [s0 _ _ (by omega)]; exact h10
  have hV : rV 0 0 (uI (uI (uI (uI (uI (uI r 101 4 (nI base)) 101 5 0) 101 6 (nI n)) 101 7 (-1)) 101 8 0) 101 9 (nI u)) := by
    refine ⟨?_, ?_, ?_⟩
    · simp only [uI_at]; simp [nI_0]
    · simp only [uI_at]; simp
    · simp only [uI_at]; simp [nI_0]
  have pre : ∀ Q, wX (d + 50) 170 [.ref 101, .int (nI base), .int (nI n), .int (nI u)] (mkH E r) Q = wX (d + 49) 164 [.ref 101] (mkH E (uI (uI (uI (uI (uI (uI r 101 4 (nI base)) 101 5 0) 101 6 (nI n)) 101 7 (-1)) 101 8 0) 101 9 (nI u))) (fun v h' => wG (d + 49) 170 (43, [.ref 101, .int (nI base), .int (nI n), .int (nI u), .retAddr 0], pv v [], h') Q) := by
    intro Q
    refine (en_X10_worked (d := d + 49) s_E).trans ?_
    match u, hu with
    | 0, _ => rw [if_neg (by decide)]; rfl
    | 1, _ => rw [if_pos (by decide)]; rfl
    | u + 2, h => exact absurd h (by omega)
  have h1 := ru_un (b := b) (n := n) (u := u) (base := base) (x := x) (y := y) (z := z) s_E 5 0 (by omega) (d + 7)
  have h2 := ru_tt (D := d + 43) s_E (by rw [show d + 43 + 1 = d + 7 + 7 * 5 + 2 by omega]; exact h1)
  have h3 := h2 0 _ hU hV (Nat.zero_le _)
  rw [show d + 43 + 6 = d + 49 by omega] at h3
  have smo : ∀ {r1 r2}, sE ruP r1 r2 → sE (fun a k => a = 101 ∧ 4 ≤ k ∧ k ≤ 9) r1 r2 := fun h => sE_mo h (fun a k q => by obtain ⟨q1, q2⟩ := q; exact ⟨q1, by omega⟩)
  unfold txR
  cases hsp : ttR b n (inR b n u x y z 5) 0 with
  | inl f =>
    rw [hsp] at h3
    obtain ⟨hf, r', w, s1, e1, g1⟩ := h3
    refine ⟨r', sE_tr s0 (smo s1), hf, e1, w, fun Q => ?_⟩
    rw [pre]
    refine (g1 _).trans ?_
    refine (sg_X10_worked_43 (d := d + 49) s_E).trans ?_
    rw [e1, if_neg (nI_pos (by omega))]
  | inr w =>
    obtain ⟨q, c2, v⟩ := w
    rw [hsp] at h3
    obtain ⟨a1, a2, r', s1, t1, g1⟩ := h3
    have a2 : q ≤ n := a2
    have t1 : rV q 0 r' := t1
    have hU' := rU_s hU s1
    have pr2 : ∀ Q, wX (d + 50) 170 [.ref 101, .int (nI base), .int (nI n), .int (nI u)] (mkH E r) Q = if q < n then Q (some (.int 0)) (mkH E (uI r' 101 7 (nI q))) else Q (some (.int v)) (mkH E r') := by
      intro Q
      rw [pre]
      refine (g1 _).trans ?_
      refine (sg_X10_worked_43 (d := d + 49) s_E).trans ?_
      have e : (nI q < nI n) = (q < n) := propext (nI_ltI (by omega) (by omega))
      rw [t1.2.1, if_pos (by decide), t1.1, hU'.2.1]
      simp only [e]
      by_cases hq : q < n
      · rw [if_pos hq, if_pos hq]
        refine (ru_wr (d := d + 48) s_E t1).trans ?_
        exact sg_X10_worked_67 (d := d + 49) s_E
      · rw [if_neg hq, if_neg hq]
    by_cases hq : q < n
    · refine ⟨uI r' 101 7 (nI q), sE_tr s0 (sE_tr (smo s1) (sE_u ⟨rfl, by omega⟩)), ?_⟩
      show match (if q < n then (.inl q : Nat ⊕ (List Int32 × Int32)) else .inr (c2, v)) with
        | .inl f => f ≤ n ∧ (uI r' 101 7 (nI q)) 101 7 = nI f ∧ ∃ w, ∀ Q, wX (d + 50) 170 [.ref 101, .int (nI base), .int (nI n), .int (nI u)] (mkH E r) Q = Q (some (.int w)) (mkH E (uI r' 101 7 (nI q)))
        | .inr w => (uI r' 101 7 (nI q)) 101 7 = -1 ∧ ∀ Q, wX (d + 50) 170 [.ref 101, .int (nI base), .int (nI n), .int (nI u)] (mkH E r) Q = Q (some (.int w.2)) (mkH E (uI r' 101 7 (nI q)))
      rw [if_pos hq]
      refine ⟨a2, by rw [uI_at, if_pos ⟨rfl, rfl⟩], 0, fun Q => ?_⟩
      rw [pr2, if_pos hq]
    · refine ⟨r', sE_tr s0 (smo s1), ?_⟩
      show match (if q < n then (.inl q : Nat ⊕ (List Int32 × Int32)) else .inr (c2, v)) with
        | .inl f => f ≤ n ∧ r' 101 7 = nI f ∧ ∃ w, ∀ Q, wX (d + 50) 170 [.ref 101, .int (nI base), .int (nI n), .int (nI u)] (mkH E r) Q = Q (some (.int w)) (mkH E r')
        | .inr w => r' 101 7 = -1 ∧ ∀ Q, wX (d + 50) 170 [.ref 101, .int (nI base), .int (nI n), .int (nI u)] (mkH E r) Q = Q (some (.int w.2)) (mkH E r')
      rw [if_neg hq]
      refine ⟨t1.2.1, fun Q => ?_⟩
      rw [pr2, if_neg hq]
end RN
