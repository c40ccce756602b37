/-! cells -/
section RUM
variable {d k pc pc' m : Nat} {x : Int} {ps : List (Int × Nat)} {L L' st : List Value} {h : pH} {Q : Option Value → pH → Prop} {E : pEv} {ro : Nat → Nat → Int32} {v y z : Int32} {w u : Int64}
theorem mk_sh {a : Nat} (h9 : a ≠ 9) : (mkH E ro).2.1 a = sB a := up_n h9
theorem mk_i {a : Nat} (h : 10 ≤ a) : (mkH E ro).2.2.2 a = ro a := if_neg (by omega)
theorem mk_x {a : Nat} (h : a < 10) : (mkH E ro).2.2.2 a = exI E.2.1 a := if_pos h
theorem sB_lt {a : Nat} {s : pSh} (h : sB a = s) (hn : s ≠ .inr (9, 0)) : a < 116 := by
  rcases Nat.lt_or_ge a 116 with q | q
  · exact q
  · exact absurd (h.symm.trans (sB_hi q)) hn
theorem mk_r {a q : Nat} (hE : oE E) (h1 : 10 ≤ a) (h2 : a < 116) (hq : q < 30) (hn : (a == 81 && q == 1) = false) : (mkH E ro).2.2.1 a q = rB a q := by
  show uR E.2.2 81 1 _ a q = _
  rw [← hE.1 a q h1 h2 hq]
  unfold uR
  by_cases h81 : a = 81
  · subst h81
    rw [up_s]
    have hq1 : q ≠ 1 := fun e => by subst e; cases hn
    rw [up_n hq1]
  · rw [up_n h81]
theorem r_getI {j a ci sl : Nat} (he : pEnt k pc = some (.getfield j, x, ps)) (hp : pc + 3 = pc') (hx : (x.toNat == ci * 32 + sl && decide (sl < cNf ci) && !((cKd ci).getD sl 0 == 2) && decide (sl < 32)) = true) (hs : sB a = .inl ci) (h10 : 10 ≤ a) :
    wG d k (pc, L, .ref a :: st, mkH E ro) Q = wG d k (pc', L, .int (ro a sl) :: st, mkH E ro) Q := by
  subst hp
  simp only [Bool.and_eq_true, decide_eq_true_eq, beq_iff_eq, Bool.not_eq_true', beq_eq_false_iff_ne, ne_eq] at hx
  obtain ⟨⟨⟨h1, h2⟩, h3⟩, h4⟩ := hx
  refine wG_s he (fun cf => ?_)
  have e1 : (ci * 32 + sl) / 32 = ci := by omega
  have e2 : (ci * 32 + sl) % 32 = sl := by omega
  simp only [stp, h1, e1, e2, mk_sh (E := E) (ro := ro) (show a ≠ 9 by omega), hs, h2, true_and, and_self, if_true, fv, if_neg h3, mk_i h10]
theorem r_getR {j a ci sl q : Nat} (hE : oE E) (he : pEnt k pc = some (.getfield j, x, ps)) (hp : pc + 3 = pc') (hx : (x.toNat == ci * 32 + sl && decide (sl < cNf ci) && ((cKd ci).getD sl 0 == 2) && decide (sl < 30)) = true) (hs : sB a = .inl ci) (h10 : 10 ≤ a) (hr : rB a sl = some q) (hn : (a == 81 && sl == 1) = false) :
    wG d k (pc, L, .ref a :: st, mkH E ro) Q = wG d k (pc', L, .ref q :: st, mkH E ro) Q := by
  subst hp
  simp only [Bool.and_eq_true, decide_eq_true_eq, beq_iff_eq] at hx
  obtain ⟨⟨⟨h1, h2⟩, h3⟩, h4⟩ := hx
  refine wG_s he (fun cf => ?_)
  have e1 : (ci * 32 + sl) / 32 = ci := by omega
  have e2 : (ci * 32 + sl) % 32 = sl := by omega
  have hlt := sB_lt hs (fun z => by cases z)
  simp only [stp, h1, e1, e2, mk_sh (E := E) (ro := ro) (show a ≠ 9 by omega), hs, h2, true_and, and_self, if_true, fv, if_pos h3, mk_r hE h10 hlt h4 hn, hr]
  rfl
theorem r_getS {j a q : Nat} (hE : oE E) (he : pEnt k pc = some (.getfield j, x, ps)) (hp : pc + 3 = pc') (hx : (x.toNat == 352) = true) (ha : a < 3) (hq : 3 + a = q) :
    wG d k (pc, L, .ref a :: st, mkH E ro) Q = wG d k (pc', L, .ref q :: st, mkH E ro) Q := by
  subst hp
  subst hq
  simp only [beq_iff_eq] at hx
  refine wG_s he (fun cf => ?_)
  have hs : (mkH E ro).2.1 a = .inl 11 := by
    rw [mk_sh (by omega)]
    match a, ha with
    | 0, _ => rfl
    | 1, _ => rfl
    | 2, _ => rfl
    | a + 3, h => exact absurd h (by omega)
  have hr : (mkH E ro).2.2.1 a 0 = some (3 + a) := by
    show uR E.2.2 81 1 _ a 0 = _
    unfold uR
    rw [up_n (by omega)]
    exact hE.2 a ha
  have e9 : fv (mkH E ro) a 11 0 = .ref (3 + a) := by
    show va_rf ((mkH E ro).2.2.1 a 0) = _
    rw [hr]
    rfl
  have hd1 : 352 / 32 = 11 := rfl
  have hd2 : 352 % 32 = 0 := rfl
  simp only [stp, hx, hs, hd1, hd2, e9]
  rw [if_pos (by decide)]
theorem r_getC {j a : Nat} (he : pEnt k pc = some (.getfield j, x, ps)) (hp : pc + 3 = pc') (hx : (x.toNat == 353) = true) (ha : a < 3) :
    wG d k (pc, L, .ref a :: st, mkH E ro) Q = wG d k (pc', L, .int 0 :: st, mkH E ro) Q := by
  subst hp
  simp only [beq_iff_eq] at hx
  refine wG_s he (fun cf => ?_)
  have hs : (mkH E ro).2.1 a = .inl 11 := by
    rw [mk_sh (by omega)]
    match a, ha with
    | 0, _ => rfl
    | 1, _ => rfl
    | 2, _ => rfl
    | a + 3, h => exact absurd h (by omega)
  have e9 : fv (mkH E ro) a 11 1 = .int 0 := by
    show Value.int ((mkH E ro).2.2.2 a 1) = _
    rw [mk_x (by omega)]
    match a, ha with
    | 0, _ => rfl
    | 1, _ => rfl
    | 2, _ => rfl
    | a + 3, h => exact absurd h (by omega)
  have hd1 : 353 / 32 = 11 := rfl
  have hd2 : 353 % 32 = 1 := rfl
  simp only [stp, hx, hs, hd1, hd2, e9]
  rw [if_pos (by decide)]
theorem uR_uR {f : Nat → Nat → Option Nat} {a k : Nat} {v w : Option Nat} : uR (uR f a k v) a k w = uR f a k w := by
  funext b c
  unfold uR
  by_cases hb : b = a
  · subst hb
    rw [up_s, up_s, up_s]
    by_cases hc : c = k
    · subst hc; rw [up_s, up_s]
    · rw [up_n hc, up_n hc, up_n hc]
  · rw [up_n hb, up_n hb, up_n hb]
theorem uR_s {f : Nat → Nat → Option Nat} {a k : Nat} {v : Option Nat} : uR f a k v a k = v := by
  unfold uR
  rw [up_s, up_s]
theorem mk_uN {q : Nat} (hq : q < 2 ^ 31) : uR (mkH E ro).2.2.1 81 1 (some q) = (mkH E (uI ro 9 0 (nI q))).2.2.1 := by
  have e1 : (uI ro 9 0 (nI q) 9 0).toNatClampNeg = q := by
    unfold uI
    rw [up_s, pk_us, nI_clamp hq]
  show uR (uR E.2.2 81 1 (some (ro 9 0).toNatClampNeg)) 81 1 (some q) = uR E.2.2 81 1 (some (uI ro 9 0 (nI q) 9 0).toNatClampNeg)
  rw [e1]
  exact uR_uR
theorem mk_uK {v : Int32} : (mkH E (uI ro 9 0 v)).2.2.2 = (mkH E ro).2.2.2 := by
  funext b
  show (if b < 10 then exI E.2.1 b else uI ro 9 0 v b) = if b < 10 then exI E.2.1 b else ro b
  by_cases hb : b < 10
  · rw [if_pos hb, if_pos hb]
  · rw [if_neg hb, if_neg hb]
    unfold uI
    rw [up_n (by omega)]
theorem r_getNm {j : Nat} (he : pEnt k pc = some (.getfield j, x, ps)) (hp : pc + 3 = pc') (hx : (x.toNat == 97) = true) :
    wG d k (pc, L, .ref 81 :: st, mkH E ro) Q = wG d k (pc', L, .ref (ro 9 0).toNatClampNeg :: st, mkH E ro) Q := by
  subst hp
  simp only [beq_iff_eq] at hx
  refine wG_s he (fun cf => ?_)
  have hs : (mkH E ro).2.1 81 = .inl 3 := mk_sh (by decide)
  have hr : (mkH E ro).2.2.1 81 1 = some (ro 9 0).toNatClampNeg := by
    show uR E.2.2 81 1 (some (ro 9 0).toNatClampNeg) 81 1 = _
    exact uR_s
  have e9 : fv (mkH E ro) 81 3 1 = .ref (ro 9 0).toNatClampNeg := by
    show va_rf ((mkH E ro).2.2.1 81 1) = _
    rw [hr]
    rfl
  have hd1 : 97 / 32 = 3 := rfl
  have hd2 : 97 % 32 = 1 := rfl
  simp only [stp, hx, hs, hd1, hd2, e9]
  rw [if_pos (by decide)]
theorem mk_uI1 {a sl : Nat} {v : Int32} (h10 : 10 ≤ a) : (mkH E (uI ro a sl v)).2.2.1 = (mkH E ro).2.2.1 := by
  have e1 : uI ro a sl v 9 0 = ro 9 0 := by
    unfold uI
    rw [up_n (by omega)]
  show uR E.2.2 81 1 (some (uI ro a sl v 9 0).toNatClampNeg) = uR E.2.2 81 1 (some (ro 9 0).toNatClampNeg)
  rw [e1]
theorem mk_uI2 {a sl : Nat} {v : Int32} (h10 : 10 ≤ a) : (mkH E (uI ro a sl v)).2.2.2 = uI (mkH E ro).2.2.2 a sl v := by
  funext b
  show (if b < 10 then exI E.2.1 b else va_up ro a (upd (ro a) sl v) b) = va_up (mkH E ro).2.2.2 a (upd ((mkH E ro).2.2.2 a) sl v) b
  rw [mk_i h10]
  by_cases hb : b = a
  · subst hb
    rw [up_s, up_s, if_neg (by omega)]
  · rw [up_n hb, up_n hb]
    rfl
theorem mk_eta {h : pH} {ro' : Nat → Nat → Int32} {A : Nat → Nat → Option Nat} {B : Nat → Nat → Int32} (e1 : (mkH E ro').2.2.1 = A) (e2 : (mkH E ro').2.2.2 = B) : ((mkH E ro).1, (mkH E ro).2.1, A, B) = mkH E ro' := by
  subst e1
  subst e2
  rfl
theorem mk_uI {a sl : Nat} {v : Int32} (h10 : 10 ≤ a) : ((mkH E ro).1, (mkH E ro).2.1, (mkH E ro).2.2.1, uI (mkH E ro).2.2.2 a sl v) = mkH E (uI ro a sl v) := mk_eta (h := mkH E ro) (mk_uI1 h10) (mk_uI2 h10)
theorem r_putI {j a ci sl : Nat} (he : pEnt k pc = some (.putfield j, x, ps)) (hp : pc + 3 = pc') (hx : (x.toNat == ci * 32 + sl && decide (sl < cNf ci) && ((cKd ci).getD sl 0 == 0) && decide (sl < 32)) = true) (hs : sB a = .inl ci) (h10 : 10 ≤ a) :
    wG d k (pc, L, .int v :: .ref a :: st, mkH E ro) Q = wG d k (pc', L, st, mkH E (uI ro a sl v)) Q := by
  subst hp
  simp only [Bool.and_eq_true, decide_eq_true_eq, beq_iff_eq] at hx
  obtain ⟨⟨⟨h1, h2⟩, h3⟩, h4⟩ := hx
  refine wG_s he (fun cf => ?_)
  have e1 : (ci * 32 + sl) / 32 = ci := by omega
  have e2 : (ci * 32 + sl) % 32 = sl := by omega
  simp only [stp, h1, e1, e2, mk_sh (E := E) (ro := ro) (show a ≠ 9 by omega), hs]
  rw [if_pos ⟨trivial, h2, h10, Or.inl h3⟩, mk_uI h10]
theorem r_putZ {j a ci sl : Nat} (he : pEnt k pc = some (.putfield j, x, ps)) (hp : pc + 3 = pc') (hx : (x.toNat == ci * 32 + sl && decide (sl < cNf ci) && ((cKd ci).getD sl 0 == 1) && decide (sl < 32)) = true) (hs : sB a = .inl ci) (h10 : 10 ≤ a) (hv : v = 0 ∨ v = 1) :
    wG d k (pc, L, .int v :: .ref a :: st, mkH E ro) Q = wG d k (pc', L, st, mkH E (uI ro a sl v)) Q := by
  subst hp
  simp only [Bool.and_eq_true, decide_eq_true_eq, beq_iff_eq] at hx
  obtain ⟨⟨⟨h1, h2⟩, h3⟩, h4⟩ := hx
  refine wG_s he (fun cf => ?_)
  have e1 : (ci * 32 + sl) / 32 = ci := by omega
  have e2 : (ci * 32 + sl) % 32 = sl := by omega
  simp only [stp, h1, e1, e2, mk_sh (E := E) (ro := ro) (show a ≠ 9 by omega), hs]
  rw [if_pos ⟨trivial, h2, h10, Or.inr ⟨h3, hv⟩⟩, mk_uI h10]
theorem r_putNm {j q : Nat} (he : pEnt k pc = some (.putfield j, x, ps)) (hp : pc + 3 = pc') (hx : (x.toNat == 97) = true) (hq : q < 2 ^ 31) :
    wG d k (pc, L, .ref q :: .ref 81 :: st, mkH E ro) Q = wG d k (pc', L, st, mkH E (uI ro 9 0 (nI q))) Q := by
  subst hp
  simp only [beq_iff_eq] at hx
  refine wG_s he (fun cf => ?_)
  have hs : (mkH E ro).2.1 81 = .inl 3 := mk_sh (by decide)
  have e9 : ((mkH E ro).1, (mkH E ro).2.1, uR (mkH E ro).2.2.1 81 1 (some q), (mkH E ro).2.2.2) = mkH E (uI ro 9 0 (nI q)) := by
    exact mk_eta (h := mkH E ro) (mk_uN hq).symm mk_uK
  have hd1 : 97 / 32 = 3 := rfl
  have hd2 : 97 % 32 = 1 := rfl
  simp only [stp, hx, hs, hd1, hd2]
  rw [if_pos (by decide), e9]
theorem r_alen {a t n : Nat} (he : pEnt k pc = some (.arraylength, x, ps)) (hp : pc + 1 = pc') (hs : sB a = .inr (t, n)) (h9 : a ≠ 9) (ht : t < 4) (hv : Int32.ofNat n = v) :
    wG d k (pc, L, .ref a :: st, mkH E ro) Q = wG d k (pc', L, .int v :: st, mkH E ro) Q := by
  subst hp
  subst hv
  refine wG_s he (fun cf => ?_)
  simp only [stp, mk_sh (E := E) (ro := ro) h9, hs]
  rw [if_pos ht]
theorem r_alenX (he : pEnt k pc = some (.arraylength, x, ps)) (hp : pc + 1 = pc') :
    wG d k (pc, L, .ref 9 :: st, mkH E ro) Q = wG d k (pc', L, .int (Int32.ofNat E.1) :: st, mkH E ro) Q := by
  subst hp
  refine wG_s he (fun cf => ?_)
  have hs : (mkH E ro).2.1 9 = .inr (0, E.1) := by
    show va_up sB 9 (.inr (0, E.1)) 9 = _
    exact up_s
  simp only [stp, hs]
  rw [if_pos (by decide)]
theorem r_iald {a n : Nat} {j : Int32} (he : pEnt k pc = some (.iaload, x, ps)) (hp : pc + 1 = pc') (hs : sB a = .inr (0, n)) (h10 : 10 ≤ a) (hi : ¬ j < 0 ∧ j.toNatClampNeg < n) :
    wG d k (pc, L, .int j :: .ref a :: st, mkH E ro) Q = wG d k (pc', L, .int (ro a j.toNatClampNeg) :: st, mkH E ro) Q := by
  subst hp
  refine wG_s he (fun cf => ?_)
  simp only [stp, mk_sh (E := E) (ro := ro) (show a ≠ 9 by omega), hs]
  rw [if_pos hi, mk_i h10]
theorem r_ialdX {j : Int32} (he : pEnt k pc = some (.iaload, x, ps)) (hp : pc + 1 = pc') (hi : ¬ j < 0 ∧ j.toNatClampNeg < E.1) :
    wG d k (pc, L, .int j :: .ref 9 :: st, mkH E ro) Q = wG d k (pc', L, .int (E.2.1 j.toNatClampNeg) :: st, mkH E ro) Q := by
  subst hp
  refine wG_s he (fun cf => ?_)
  have hs : (mkH E ro).2.1 9 = .inr (0, E.1) := by
    show va_up sB 9 (.inr (0, E.1)) 9 = _
    exact up_s
  simp only [stp, hs]
  rw [if_pos hi, mk_x (by decide)]
  rfl
theorem r_ialdT {a n : Nat} {j : Int32} (he : pEnt k pc = some (.iaload, x, ps)) (hp : pc + 1 = pc') (hs : sB a = .inr (0, n)) (h9 : a < 9) (hi : ¬ j < 0 ∧ j.toNatClampNeg < n) :
    wG d k (pc, L, .int j :: .ref a :: st, mkH E ro) Q = wG d k (pc', L, .int (exI E.2.1 a j.toNatClampNeg) :: st, mkH E ro) Q := by
  subst hp
  refine wG_s he (fun cf => ?_)
  simp only [stp, mk_sh (E := E) (ro := ro) (show a ≠ 9 by omega), hs]
  rw [if_pos hi, mk_x (by omega)]
theorem r_bald {a n : Nat} {j : Int32} (he : pEnt k pc = some (.baload, x, ps)) (hp : pc + 1 = pc') (hs : sB a = .inr (1, n)) (h9 : a < 9) (hi : ¬ j < 0 ∧ j.toNatClampNeg < n) :
    wG d k (pc, L, .int j :: .ref a :: st, mkH E ro) Q = wG d k (pc', L, .int (exI E.2.1 a j.toNatClampNeg) :: st, mkH E ro) Q := by
  subst hp
  refine wG_s he (fun cf => ?_)
  simp only [stp, mk_sh (E := E) (ro := ro) (show a ≠ 9 by omega), hs]
  rw [if_pos hi, mk_x (by omega)]
theorem r_aald {a t n q : Nat} {j : Int32} (hE : oE E) (he : pEnt k pc = some (.aaload, x, ps)) (hp : pc + 1 = pc') (hs : sB a = .inr (t, n)) (ht : t = 2 ∨ t = 3) (h10 : 10 ≤ a) (hi : ¬ j < 0 ∧ j.toNatClampNeg < n) (hn : n ≤ 30) (h81 : a ≠ 81) (hr : rB a j.toNatClampNeg = some q) :
    wG d k (pc, L, .int j :: .ref a :: st, mkH E ro) Q = wG d k (pc', L, .ref q :: st, mkH E ro) Q := by
  subst hp
  refine wG_s he (fun cf => ?_)
  have hlt := sB_lt hs (fun z => by cases z; omega)
  simp only [stp, mk_sh (E := E) (ro := ro) (show a ≠ 9 by omega), hs]
  rw [if_pos ⟨ht, h10, hi.1, hi.2⟩, mk_r hE h10 hlt (by omega) (by simp [h81]), hr]
  rfl
theorem r_iast {a n : Nat} {j : Int32} (he : pEnt k pc = some (.iastore, x, ps)) (hp : pc + 1 = pc') (hs : sB a = .inr (0, n)) (h10 : 10 ≤ a) (hi : ¬ j < 0 ∧ j.toNatClampNeg < n) :
    wG d k (pc, L, .int v :: .int j :: .ref a :: st, mkH E ro) Q = wG d k (pc', L, st, mkH E (uI ro a j.toNatClampNeg v)) Q := by
  subst hp
  refine wG_s he (fun cf => ?_)
  simp only [stp, mk_sh (E := E) (ro := ro) (show a ≠ 9 by omega), hs]
  rw [if_pos ⟨h10, hi.1, hi.2⟩, mk_uI h10]
theorem r_gets {i q : Nat} (he : pEnt k pc = some (.getstatic i, x, ps)) (hp : pc + 3 = pc') (hx : (decide (x.toNat < 3) && (6 + x.toNat == q)) = true) : wG d k (pc, L, st, h) Q = wG d k (pc', L, .ref q :: st, h) Q := by
  subst hp
  simp only [Bool.and_eq_true, decide_eq_true_eq, beq_iff_eq] at hx
  refine wG_s he (fun cf => ?_)
  simp only [stp]
  rw [if_pos hx.1, hx.2]
theorem r_getsC {i : Nat} (he : pEnt k pc = some (.getstatic i, x, ps)) (hp : pc + 3 = pc') (hx : (x.toNat == 3) = true) : wG d k (pc, L, st, h) Q = wG d k (pc', L, .int 1 :: st, h) Q := by
  subst hp
  simp only [beq_iff_eq] at hx
  refine wG_s he (fun cf => ?_)
  simp only [stp, hx]
  rfl
theorem r_max {i : Nat} (he : pEnt k pc = some (.invokestatic i, -3, ps)) (hp : pc + 3 = pc') (hl : (decide (st.length ≤ 4)) = true) : wG d k (pc, L, .int y :: .int v :: st, h) Q = wG d k (pc', L, .int (if v < y then y else v) :: st, h) Q := by
  subst hp
  simp only [decide_eq_true_eq] at hl
  refine wG_s he (fun cf => ?_)
  simp only [stp]
  rw [if_neg (by decide), if_neg (by decide), if_pos (by decide), if_pos hl]
theorem r_min {i : Nat} (he : pEnt k pc = some (.invokestatic i, -4, ps)) (hp : pc + 3 = pc') (hl : (decide (st.length ≤ 4)) = true) : wG d k (pc, L, .int y :: .int v :: st, h) Q = wG d k (pc', L, .int (if y < v then y else v) :: st, h) Q := by
  subst hp
  simp only [decide_eq_true_eq] at hl
  refine wG_s he (fun cf => ?_)
  simp only [stp]
  rw [if_neg (by decide), if_neg (by decide), if_neg (by decide), if_pos (by decide), if_pos hl]
theorem mk_uA {a : Nat} {g : Nat → Int32} (h10 : 10 ≤ a) : ((mkH E ro).1, (mkH E ro).2.1, (mkH E ro).2.2.1, va_up (mkH E ro).2.2.2 a g) = mkH E (va_up ro a g) := by
  refine mk_eta (h := mkH E ro) ?_ ?_
  · have e1 : va_up ro a g 9 0 = ro 9 0 := by rw [up_n (by omega)]
    show uR E.2.2 81 1 (some (va_up ro a g 9 0).toNatClampNeg) = uR E.2.2 81 1 (some (ro 9 0).toNatClampNeg)
    rw [e1]
  · funext b
    show (if b < 10 then exI E.2.1 b else va_up ro a g b) = va_up (mkH E ro).2.2.2 a g b
    by_cases hb : b = a
    · subst hb
      rw [up_s, up_s, if_neg (by omega)]
    · rw [up_n hb, up_n hb]
      rfl
theorem r_copy {i a b na nb : Nat} {sp dp n : Int32} (he : pEnt k pc = some (.invokestatic i, -2, ps)) (hp : pc + 3 = pc') (hsa : sB a = .inr (0, na)) (hsb : sB b = .inr (0, nb)) (ha : 10 ≤ a) (hb : 10 ≤ b) (h1 : ¬ sp < 0) (h2 : ¬ dp < 0) (h3 : ¬ n < 0) (h4 : sp.toNatClampNeg + n.toNatClampNeg ≤ na) (h5 : dp.toNatClampNeg + n.toNatClampNeg ≤ nb) (hl : (decide (st.length ≤ 4)) = true) :
    wG d k (pc, L, .int n :: .int dp :: .ref b :: .int sp :: .ref a :: st, mkH E ro) Q = wG d k (pc', L, st, mkH E (va_up ro b (va_cpy (ro a) (ro b) sp.toNatClampNeg dp.toNatClampNeg n.toNatClampNeg))) Q := by
  subst hp
  simp only [decide_eq_true_eq] at hl
  refine wG_s he (fun cf => ?_)
  simp only [stp, mk_sh (E := E) (ro := ro) (show a ≠ 9 by omega), mk_sh (E := E) (ro := ro) (show b ≠ 9 by omega), hsa, hsb]
  rw [if_neg (by decide), if_pos (by decide), if_pos ⟨ha, hb, h1, h2, h3, h4, h5, hl⟩, mk_i ha, mk_i hb, mk_uA hb]
/-! calls and returns -/
theorem r_inv {i b c : Nat} {as rest : List Value} (he : pEnt k pc = some (.invokevirtual i, x, ps)) (hp : pc + 3 = pc') (hx : (decide (0 ≤ x) && (x.toNat == m)) = true) (ha : (st.take (mSig m).length).reverse = .ref b :: as) (hr : st.drop (mSig m).length = rest) (hl : (decide ((mSig m).length ≤ st.length) && decide (((st.drop (mSig m).length).map fun v => v.category).sum ≤ 8)) = true) (hs : sB b = .inl c) (hc : (mOwn m == c) = true) :
    wG d k (pc, L, st, mkH E ro) Q = wX d m (.ref b :: as) (mkH E ro) (fun v h' => wG d k (pc', L, pv v rest, h') Q) := by
  subst hp
  subst hr
  simp only [Bool.and_eq_true, decide_eq_true_eq, beq_iff_eq] at hx hl hc
  have h9 : b ≠ 9 := fun e => by subst e; cases hs
  have := wG_c (d := d) (k := k) (pc := pc) (m := m) (L := L) (st := st) (h := mkH E ro) (Q := Q) (as := .ref b :: as) (rest := st.drop (mSig m).length) he (fun cf => by
    simp only [stp, hx.2]
    have ho : isO m (st.take (mSig m).length).reverse (mkH E ro) = true := by
      rw [ha]
      unfold isO
      simp only [decide_eq_true_eq]
      rw [mk_sh h9, hs, hc]
    rw [if_pos ⟨hx.1, ho⟩]
    unfold doC
    rw [if_neg (by omega), ha]
    generalize cf m _ _ = z
    cases z <;> rfl)
  rw [this]
  simp only [pv_eq]
theorem r_ins {i : Nat} {as rest : List Value} (he : pEnt k pc = some (.invokestatic i, x, ps)) (hp : pc + 3 = pc') (hx : (decide (0 ≤ x) && (x.toNat == m)) = true) (ha : (st.take (mSig m).length).reverse = as) (hr : st.drop (mSig m).length = rest) (hl : (decide ((mSig m).length ≤ st.length) && decide (((st.drop (mSig m).length).map fun v => v.category).sum ≤ 8)) = true) :
    wG d k (pc, L, st, h) Q = wX d m as h (fun v h' => wG d k (pc', L, pv v rest, h') Q) := by
  subst hp
  subst hr
  subst ha
  simp only [Bool.and_eq_true, decide_eq_true_eq, beq_iff_eq] at hx hl
  have := wG_c (d := d) (k := k) (pc := pc) (m := m) (L := L) (st := st) (h := h) (Q := Q) (as := (st.take (mSig m).length).reverse) (rest := st.drop (mSig m).length) he (fun cf => by
    simp only [stp, hx.2]
    rw [if_pos hx.1]
    unfold doC
    rw [if_neg (by omega)]
    generalize cf m _ _ = z
    cases z <;> rfl)
  rw [this]
  simp only [pv_eq]
theorem r_inp {i : Nat} {as rest : List Value} (he : pEnt k pc = some (.invokespecial i, x, ps)) (hp : pc + 3 = pc') (hx : (decide (0 ≤ x) && (x.toNat == m)) = true) (ha : (st.take (mSig m).length).reverse = as) (hr : st.drop (mSig m).length = rest) (hl : (decide ((mSig m).length ≤ st.length) && decide (((st.drop (mSig m).length).map fun v => v.category).sum ≤ 8)) = true) :
    wG d k (pc, L, st, h) Q = wX d m as h (fun v h' => wG d k (pc', L, pv v rest, h') Q) := by
  subst hp
  subst hr
  subst ha
  simp only [Bool.and_eq_true, decide_eq_true_eq, beq_iff_eq] at hx hl
  have := wG_c (d := d) (k := k) (pc := pc) (m := m) (L := L) (st := st) (h := h) (Q := Q) (as := (st.take (mSig m).length).reverse) (rest := st.drop (mSig m).length) he (fun cf => by
    simp only [stp, hx.2]
    rw [if_pos hx.1]
    unfold doC
    rw [if_neg (by omega)]
    generalize cf m _ _ = z
    cases z <;> rfl)
  rw [this]
  simp only [pv_eq]
theorem r_iret (he : pEnt k pc = some (.ireturn, x, ps)) (hm : mRet k = some .int) : wG d k (pc, L, [.int v], h) Q = Q (some (.int v)) h := wG_r he (fun cf => by
  simp only [stp, hm]
  rw [if_pos (show narrow .int (.int v) = .int v from rfl)])
theorem r_zret {ty : FieldType} (he : pEnt k pc = some (.ireturn, x, ps)) (hm : mRet k = some ty) (hn : narrow ty (.int v) = .int v) : wG d k (pc, L, [.int v], h) Q = Q (some (.int v)) h := wG_r he (fun cf => by
  simp only [stp, hm]
  rw [if_pos hn])
theorem r_aret {q : Nat} {nm : String} (he : pEnt k pc = some (.areturn, x, ps)) (hm : mRet k = some (.object nm)) : wG d k (pc, L, [.ref q], h) Q = Q (some (.ref q)) h := wG_r he (fun cf => by
  simp only [stp, hm])
theorem r_vret (he : pEnt k pc = some (.return_, x, ps)) (hm : mRet k = none) : wG d k (pc, L, [], h) Q = Q none h := wG_r he (fun cf => by
  simp only [stp, hm])

end RUM
