/-! other wills: the model -/
def Wx (t : Th) (c : Nat) : Th := fun a b => if a = 8 then t.W b ^^^ bt c b else t a b
def Kx (t : Th) (s k : Nat) : Th := fun a b => if a = 0 ∧ b = s then k else t a b
section WM
variable {d : Nat} {E : pEv} {r r' : Nat → Nat → Int32} {Q : Option Value → pH → Prop} {t : Th}
theorem x_puts (s_E : oE E) {s w : Nat} (hs : s < 7) (hw : w < 10) {v : Int32} : wX (d + 1) 158 [.ref 101, .int (nI s), .int (nI w), .int v] (mkH E r) Q = Q none (mkH E (uI r 102 (10 + 10 * s + w) v)) := by
  have h := its_at hs hw
  refine (x_X10_puts s_E ⟨h.2, by omega⟩).trans ?_
  unfold g_X10_puts
  rw [h.1]
theorem Wx_ok (ok : tOK t) {c : Nat} : tOK (Wx t c) := by
  refine ⟨ok.n, ok.K, ok.M, ok.C, ok.T, ok.A, ok.P, ok.F, ok.G, fun i hi => ?_, ok.o, ok.oi, ok.b⟩
  have h1 := ok.W i hi
  have h2 := @bt_le c i
  show t.W i ^^^ bt c i ≤ 1
  have : ∀ a, a < 2 → ∀ b, b < 2 → a ^^^ b ≤ 1 := by decide
  exact this _ (by omega) _ (by omega)
theorem hp_Wx (ok : tOK t) {c : Nat} : hp (Wx t c) = wo t (wl t ^^^ c) := by
  have e : hp (Wx t c) = wo t (wl (Wx t c)) := rfl
  rw [e]
  refine wo_c _ _ (fun i hi _ => ?_)
  rw [wl_bt (Wx_ok ok) hi, bt_xor, wl_bt ok hi]
  rfl
theorem x_keep (s_E : oE E) (ok : tOK t) (hM : tM t r) : ∃ r', sE (fun a _ => a = 110) r r' ∧ (∀ i, i < t.n → r' 110 i = nI (t.W i)) ∧ ∀ Q, wX (d + 2) 211 [.ref 101] (mkH E r) Q = Q none (mkH E r') := by
  have hn := ok.n
  have key : ∀ k i r, i + k = t.n → tM t r → (∀ j, j < i → r 110 j = nI (t.W j)) → ∃ r', sE (fun a _ => a = 110) r r' ∧ (∀ j, j < t.n → r' 110 j = nI (t.W j)) ∧ ∀ Q, wG (d + 1) 211 (2, [.ref 101, .int (nI i)], [], mkH E r) Q = Q none (mkH E r') := by
    intro k
    induction k with
    | zero =>
      intro i r hi hM hj
      refine ⟨r, sE_rf, fun j hjn => hj j (by omega), fun Q => ?_⟩
      refine (sg_X10_keepWills_2 (d := d + 1) s_E).trans ?_
      rw [hM.n, if_neg (nI_nlt (by omega) (by omega))]
    | succ k ih =>
      intro i r hi hM hj
      have hit : i < t.n := by omega
      have s1 : sE (fun a _ => a = 110) r (uI r 110 i (nI (t.W i))) := sE_u rfl
      obtain ⟨r', s2, j2, e2⟩ := ih (i + 1) (uI r 110 i (nI (t.W i))) (by omega) (hM.fr (funext fun k => s1 102 k (by omega))) (fun j hj2 => by
        rw [uI_at]
        by_cases q : j = i
        · rw [q, if_pos ⟨rfl, rfl⟩]
        · rw [if_neg (by omega)]; exact hj j (by omega))
      refine ⟨r', sE_tr s1 s2, j2, fun Q => ?_⟩
      refine (sg_X10_keepWills_2 (d := d + 1) s_E).trans ?_
      rw [hM.n, if_pos (nI_lt hit (by omega))]
      refine (x_its (w := 8) s_E (show i < 7 by omega) (by decide)).trans ?_
      rw [hM.W i hit]
      refine (sg_X10_keepWills_24 (d := d + 1) s_E (ix_n (show i < 7 by omega) (by decide))).trans ?_
      rw [nI_clamp (by omega), ← nI_succ]
      exact e2 Q
  obtain ⟨r', s1, j1, e1⟩ := key t.n 0 r (by omega) hM (fun j hj => absurd hj (Nat.not_lt_zero _))
  exact ⟨r', s1, j1, fun Q => (en_X10_keepWills (d := d + 1) s_E).trans (e1 Q)⟩
/-- wills laid down by a rule -/
def wP8 : Nat → Nat → Prop := fun a k => a = 102 ∧ ∃ i, i < 7 ∧ k = 10 + 10 * i + 8
theorem x_putBack (s_E : oE E) (ok : tOK t) (h102 : r 102 0 = nI t.n) (h110 : ∀ i, i < t.n → r 110 i = nI (t.W i)) : ∃ r', sE (fun a _ => a = 102) r r' ∧ (∀ k, r' 102 k = if ∃ i, i < t.n ∧ k = 10 + 10 * i + 8 then r' 102 k else r 102 k) ∧ (∀ i, i < t.n → r' 102 (10 + 10 * i + 8) = nI (t.W i)) ∧ ∀ Q, wX (d + 2) 212 [.ref 101] (mkH E r) Q = Q none (mkH E r') := by
  have hn := ok.n
  have key : ∀ k i r, i + k = t.n → r 102 0 = nI t.n → (∀ j, j < t.n → r 110 j = nI (t.W j)) → (∀ j, j < i → r 102 (10 + 10 * j + 8) = nI (t.W j)) → ∃ r', sE (fun a _ => a = 102) r r' ∧ (∀ k, (¬ ∃ j, j < t.n ∧ k = 10 + 10 * j + 8) → r' 102 k = r 102 k) ∧ (∀ j, j < t.n → r' 102 (10 + 10 * j + 8) = nI (t.W j)) ∧ ∀ Q, wG (d + 1) 212 (2, [.ref 101, .int (nI i)], [], mkH E r) Q = Q none (mkH E r') := by
    intro k
    induction k with
    | zero =>
      intro i r hi h0 h1 hj
      have hlt : ¬ nI i < r 102 0 := by rw [h0]; exact nI_nlt (by omega) (by omega)
      refine ⟨r, sE_rf, fun _ _ => rfl, fun j hjn => hj j (by omega), fun Q => ?_⟩
      refine (sg_X10_putWillsBack_2 s_E (fun h => absurd h hlt)).trans ?_
      rw [if_neg hlt]
    | succ k ih =>
      intro i r hi h0 h1 hj
      have hit : i < t.n := by omega
      have s1 : sE (fun a _ => a = 102) r (uI r 102 (10 + 10 * i + 8) (nI (t.W i))) := sE_u rfl
      obtain ⟨r', s2, o2, j2, e2⟩ := ih (i + 1) (uI r 102 (10 + 10 * i + 8) (nI (t.W i))) (by omega) (by rw [uI_at, if_neg (by omega)]; exact h0) (fun j hj => by rw [uI_at, if_neg (by omega)]; exact h1 j hj) (fun j hj2 => by
        rw [uI_at]
        by_cases q : j = i
        · rw [q, if_pos ⟨rfl, rfl⟩]
        · rw [if_neg (by omega)]; exact hj j (by omega))
      refine ⟨r', sE_tr s1 s2, fun k hk => ?_, j2, fun Q => ?_⟩
      · rw [o2 k hk, uI_at, if_neg (fun q => hk ⟨i, hit, q.2⟩)]
      · refine (sg_X10_putWillsBack_2 s_E (fun _ => ix_n (show i < 7 by omega) (by decide))).trans ?_
        rw [h0, if_pos (nI_lt hit (by omega)), nI_clamp (by omega), h1 i hit]
        refine (x_puts (w := 8) s_E (show i < 7 by omega) (by decide)).trans ?_
        refine (sg_X10_putWillsBack_25 (d := d + 1) s_E).trans ?_
        rw [← nI_succ]
        exact e2 Q
  obtain ⟨r', s1, o1, j1, e1⟩ := key t.n 0 r (by omega) h102 h110 (fun j hj => absurd hj (Nat.not_lt_zero _))
  refine ⟨r', s1, fun k => ?_, j1, fun Q => (en_X10_putWillsBack (d := d + 1) s_E).trans (e1 Q)⟩
  by_cases q : ∃ i, i < t.n ∧ k = 10 + 10 * i + 8
  · rw [if_pos q]
  · rw [if_neg q]; exact o1 k q
def cbP : Nat → Nat → Prop := fun a _ => a = 110
theorem cbS (s : sE cbP r r') : sE SM r r' := sE_mo s (fun a k h => by unfold cbP at h; unfold SM; omega)
theorem x_comingBy (s_E : oE E) (ok : tOK t) (hM : tM t r) {c : Nat} (hc : c < 128) : ∃ r', sE cbP r r' ∧ ∀ Q, wX (d + 5) 214 [.ref 101, .int (nI c)] (mkH E r) Q = Q (some (.int (nI (wo t (wl t ^^^ c))))) (mkH E r') := by
  have hn := ok.n
  obtain ⟨r1, s1, k1, e1⟩ := x_keep (d := d + 2) s_E ok hM
  have hM1 : tM t r1 := hM.fr (funext fun k => s1 102 k (by omega))
  -- the wills changed
  have mid : ∀ k i r, i + k = t.n → r 102 0 = nI t.n → (∀ j, j < t.n → r 110 j = nI (t.W j)) → (∀ j, j < i → r 102 (10 + 10 * j + 8) = nI (t.W j ^^^ bt c j)) → ∃ r', sE (fun a _ => a = 102) r r' ∧ (∀ k, (¬ ∃ j, j < t.n ∧ k = 10 + 10 * j + 8) → r' 102 k = r 102 k) ∧ (∀ j, j < t.n → r' 102 (10 + 10 * j + 8) = nI (t.W j ^^^ bt c j)) ∧ ∀ Q, wG (d + 4) 214 (6, [.ref 101, .int (nI c), .int (nI i)], [], mkH E r) Q = wX (d + 4) 177 [.ref 101] (mkH E r') (fun v h' => wG (d + 4) 214 (45, [.ref 101, .int (nI c), .int (nI t.n)], pv v [], h') Q) := by
    intro k
    induction k with
    | zero =>
      intro i r hi h0 h1 hj
      obtain rfl : i = t.n := by omega
      have hlt : ¬ nI t.n < r 102 0 := by rw [h0]; exact nI_nlt (by omega) (by omega)
      refine ⟨r, sE_rf, fun _ _ => rfl, hj, fun Q => ?_⟩
      refine (sg_X10_comingBy_6 s_E (fun h => absurd h hlt)).trans ?_
      rw [if_neg hlt]
    | succ k ih =>
      intro i r hi h0 h1 hj
      have hit : i < t.n := by omega
      have h7 : i < 7 := by omega
      have s1 : sE (fun a _ => a = 102) r (uI r 102 (10 + 10 * i + 8) (nI (t.W i ^^^ bt c i))) := sE_u rfl
      obtain ⟨r', s2, o2, j2, e2⟩ := ih (i + 1) (uI r 102 (10 + 10 * i + 8) (nI (t.W i ^^^ bt c i))) (by omega) (by rw [uI_at, if_neg (by omega)]; exact h0) (fun j hj => by rw [uI_at, if_neg (by omega)]; exact h1 j hj) (fun j hj2 => by
        rw [uI_at]
        by_cases q : j = i
        · rw [q, if_pos ⟨rfl, rfl⟩]
        · rw [if_neg (by omega)]; exact hj j (by omega))
      refine ⟨r', sE_tr s1 s2, fun k hk => ?_, j2, fun Q => ?_⟩
      · rw [o2 k hk, uI_at, if_neg (fun q => hk ⟨i, hit, q.2⟩)]
      · refine (sg_X10_comingBy_6 s_E (fun _ => ix_n h7 (by decide))).trans ?_
        rw [h0, if_pos (nI_lt hit (by omega)), nI_clamp (by omega), h1 i hit, sh31 (by omega), nI_bt hc h7, ← nI_xor]
        refine (x_puts (w := 8) s_E h7 (by decide)).trans ?_
        refine (sg_X10_comingBy_35 (d := d + 4) s_E).trans ?_
        rw [← nI_succ]
        exact e2 Q
  obtain ⟨r2, s2, o2, j2, e2⟩ := mid t.n 0 r1 (by omega) hM1.n k1 (fun j hj => absurd hj (Nat.not_lt_zero _))
  have hM2 : tM (Wx t c) r2 := by
    have o : ∀ k, (∀ j, j < t.n → k ≠ 10 + 10 * j + 8) → r2 102 k = r1 102 k := fun k hk => o2 k (fun ⟨j, h1, h2⟩ => hk j h1 h2)
    refine ⟨?_, ?_, ?_, ?_, ?_, ?_, ?_, ?_, ?_, ?_, ?_, ?_⟩
    · rw [o 0 (by intro j hj; omega)]; exact hM1.n
    · intro i hi; rw [o _ (by intro j hj; omega)]; exact hM1.K i hi
    · intro i hi; rw [o _ (by intro j hj; omega)]; exact hM1.M i hi
    · intro i hi; rw [o _ (by intro j hj; omega)]; exact hM1.C i hi
    · intro i hi; rw [o _ (by intro j hj; omega)]; exact hM1.T i hi
    · intro i hi; rw [o _ (by intro j hj; omega)]; exact hM1.A i hi
    · intro i hi; rw [o _ (by intro j hj; omega)]; exact hM1.P i hi
    · intro i hi hp; rw [o _ (by intro j hj; omega)]; exact hM1.F i hi hp
    · intro i hi hp; rw [o _ (by intro j hj; omega)]; exact hM1.G i hi hp
    · intro i hi; exact j2 i hi
    · intro i hi; rw [o _ (by intro j hj; have : i < t.n := hi; omega)]; exact hM1.o i hi
    · rw [o 2 (by intro j hj; omega)]; exact hM1.b
  obtain ⟨r3, s3, o3, j3, e3⟩ := x_putBack (d := d + 2) (t := t) (r := r2) s_E ok (by rw [o2 0 (by intro ⟨j, h1, h2⟩; omega)]; exact hM1.n) (fun i hi => by rw [s2 _ _ (by omega)]; exact k1 i hi)
  refine ⟨r3, fun a k h => ?_, fun Q => ?_⟩
  · by_cases q : a = 102
    · subst q
      by_cases q2 : ∃ i, i < t.n ∧ k = 10 + 10 * i + 8
      · obtain ⟨i, hi, rfl⟩ := q2
        rw [j3 i hi, hM.W i hi]
      · have := o3 k
        rw [if_neg q2] at this
        rw [this, o2 k q2, s1 _ _ (by omega)]
    · rw [s3 a k (by omega), s2 a k (by omega), s1 a k h]
  · refine (en_X10_comingBy (d := d + 4) s_E).trans ?_
    refine (e1 _).trans ?_
    refine (sg_X10_comingBy_4 (d := d + 4) s_E).trans ?_
    refine (e2 Q).trans ?_
    refine (x_all (d := d) s_E (Wx_ok ok) hM2).trans ?_
    rw [hp_Wx ok]
    refine (sg_X10_comingBy_45 (d := d + 4) s_E).trans ?_
    refine (e3 _).trans ?_
    exact sg_X10_comingBy_50 (d := d + 4) s_E
theorem x_roots (s_E : oE E) (ok : tOK t) (hM : tM t r) : wX (d + 2) 213 [.ref 101] (mkH E r) Q = Q (some (.int (nI (st t)))) (mkH E r) := by
  have hn := ok.n
  refine (en_X10_roots (d := d + 1) s_E).trans ?_
  exact loop_it (P := fun i a => wG (d + 1) 213 (4, [.ref 101, .int (nI a), .int (nI i)], [], mkH E r) Q) (R := fun a => Q (some (.int (nI a))) (mkH E r)) (f := fun i a => a ||| (if t.C i = 0 then 1 else 0) <<< i) (I := fun _ _ => True) (n := t.n)
    (fun i a hi _ => by
      have h7 : i < 7 := by omega
      show wG (d + 1) 213 (4, [.ref 101, .int (nI a), .int (nI i)], [], mkH E r) Q = _
      rw [sg_X10_roots_4 s_E, hM.n, if_pos (nI_lt hi (by omega))]
      refine (x_its (w := 2) s_E h7 (by decide)).trans ?_
      rw [hM.C i hi]
      refine (sg_X10_roots_21 (d := d + 1) s_E).trans ?_
      have hc := C128 ok hi
      have e : (nI (t.C i) = 0) = (t.C i = 0) := propext (nI_eq (b := 0) (by omega) (by decide))
      simp only [e]
      rw [sh31 (by omega), show (1 : Int32) = nI 1 from rfl, nI_shl (by omega), ← nI_or, show (0 : Int32) = nI 0 from rfl, ← nI_or, nI_add]
      by_cases q : t.C i = 0
      · rw [if_pos q, if_pos q]
      · rw [if_neg q, if_neg q, Nat.zero_shiftLeft])
    (fun _ _ _ _ => trivial)
    (fun a _ => by
      show wG (d + 1) 213 (4, [.ref 101, .int (nI a), .int (nI t.n)], [], mkH E r) Q = _
      rw [sg_X10_roots_4 s_E, hM.n, if_neg (nI_nlt (Nat.le_refl _) (by omega))])
    t.n 0 0 (by omega) trivial
theorem sh2n (ok : tOK t) (hM : tM t r) : (1 : Int32) <<< ((r 102 0) &&& 31) = nI (2 ^ t.n) := by
  have : ∀ n, n < 8 → (1 : Int32) <<< (nI n &&& 31) = nI (2 ^ n) := by decide +kernel
  rw [hM.n]
  exact this t.n (by have := ok.n; omega)
theorem x_thoughts (s_E : oE E) (ok : tOK t) (hM : tM t r) {p : Nat} (hpp : p ≤ t.n) : ∃ r', sE cbP r r' ∧ ∀ Q, wX (d + 6) 216 [.ref 101, .int (nI p)] (mkH E r) Q = Q (some (.int (nI (tht t p)))) (mkH E r') := by
  have hn := ok.n
  have h2n := p128 ok
  have hst := st_lt (t := t)
  rw [← tht_thm ok]
  have hg : ga t p < 128 := gaR_lt (o := t.o) (fun i hi => by have := ok.o i (by omega); omega)
  have key : ∀ k c a r, c + k = 2 ^ t.n → tM t r → ∃ r', sE cbP r r' ∧ ∀ Q, wG (d + 5) 216 (46, [.ref 101, .int (nI p), .int (nI (ga t p)), .int (nI (st t)), .int (nI (hp t)), .int (nI a), .int (nI c)], [], mkH E r) Q = Q (some (.int (nI (it (fun c a => a + (if an c (st t) = 0 then (if (wo t (wl t ^^^ c) ^^^ hp t) &&& ga t p = 0 then 1 else 0) else 0)) k c a)))) (mkH E r') := by
    intro k
    induction k with
    | zero =>
      intro c a r hk hM
      refine ⟨r, sE_rf, fun Q => ?_⟩
      refine (sg_X10_thoughts_46 (d := d + 5) s_E).trans ?_
      rw [sh2n ok hM, if_neg (nI_nlt (by omega) (by omega))]
      rfl
    | succ k ih =>
      intro c a r hk hM
      have hc128 : c < 128 := by omega
      have han : (nI (an c (st t)) = 0) = (an c (st t) = 0) := propext (nI_eq (b := 0) (by have := an_lt (g := st t) hc128; omega) (by decide))
      by_cases h0 : an c (st t) = 0
      · obtain ⟨r1, s1, e1⟩ := x_comingBy (d := d) s_E ok hM hc128
        obtain ⟨r2, s2, e2⟩ := ih (c + 1) (a + (if (wo t (wl t ^^^ c) ^^^ hp t) &&& ga t p = 0 then 1 else 0)) r1 (by omega) (tM_s hM (cbS s1))
        refine ⟨r2, sE_tr s1 s2, fun Q => ?_⟩
        refine (sg_X10_thoughts_46 (d := d + 5) s_E).trans ?_
        rw [sh2n ok hM, if_pos (nI_lt (by omega) (by omega)), an_t hc128 (by omega)]
        simp only [han]
        rw [if_pos h0]
        refine (e1 _).trans ?_
        refine (sg_X10_thoughts_76 (d := d + 5) s_E).trans ?_
        rw [← nI_xor, ← nI_and]
        have hlt : (wo t (wl t ^^^ c) ^^^ hp t) &&& ga t p < 128 := Nat.lt_of_le_of_lt Nat.and_le_right hg
        have e : (nI ((wo t (wl t ^^^ c) ^^^ hp t) &&& ga t p) = 0) = ((wo t (wl t ^^^ c) ^^^ hp t) &&& ga t p = 0) := propext (nI_eq (b := 0) (by omega) (by decide))
        simp only [e]
        show _ = Q (some (.int (nI (it _ k (c + 1) (a + (if an c (st t) = 0 then (if (wo t (wl t ^^^ c) ^^^ hp t) &&& ga t p = 0 then 1 else 0) else 0)))))) (mkH E r2)
        rw [if_pos h0]
        have e2 := e2 Q
        by_cases q : (wo t (wl t ^^^ c) ^^^ hp t) &&& ga t p = 0
        · rw [if_pos q] at e2 ⊢
          rw [if_pos q, ← nI_succ, ← nI_succ]
          exact e2
        · rw [if_neg q] at e2 ⊢
          rw [if_neg q, show (0 : Int32) = nI 0 from rfl, nI_add, ← nI_succ]
          exact e2
      · obtain ⟨r2, s2, e2⟩ := ih (c + 1) (a + 0) r (by omega) hM
        refine ⟨r2, s2, fun Q => ?_⟩
        refine (sg_X10_thoughts_46 (d := d + 5) s_E).trans ?_
        rw [sh2n ok hM, if_pos (nI_lt (by omega) (by omega)), an_t hc128 (by omega)]
        simp only [han]
        rw [if_neg h0, ← nI_succ]
        show _ = Q (some (.int (nI (it _ k (c + 1) (a + (if an c (st t) = 0 then (if (wo t (wl t ^^^ c) ^^^ hp t) &&& ga t p = 0 then 1 else 0) else 0)))))) (mkH E r2)
        rw [if_neg h0]
        exact e2 Q
  obtain ⟨r', s1, e1⟩ := key (2 ^ t.n) 0 0 r (by omega) hM
  refine ⟨r', s1, fun Q => ?_⟩
  refine (en_X10_thoughts (d := d + 5) s_E).trans ?_
  have first : ∀ k i a, i + k = p → a < 128 → wG (d + 5) 216 (4, [.ref 101, .int (nI p), .int (nI a), .int (nI i), .retAddr 0, .retAddr 0, .retAddr 0], [], mkH E r) Q = wX (d + 5) 213 [.ref 101] (mkH E r) (fun v h' => wG (d + 5) 216 (33, [.ref 101, .int (nI p), .int (nI (it (fun i a => a ||| 1 <<< t.o i) k i a)), .int (nI p), .retAddr 0, .retAddr 0, .retAddr 0], pv v [], h') Q) := by
    intro k
    induction k with
    | zero =>
      intro i a hi ha
      obtain rfl : i = p := by omega
      have hlt : ¬ nI i < nI i := nI_nlt (Nat.le_refl _) (by omega)
      refine (sg_X10_thoughts_4 s_E (fun h => absurd h hlt)).trans ?_
      rw [if_neg hlt]
      rfl
    | succ k ih =>
      intro i a hi ha
      have hit : i < t.n := by omega
      have ho := ok.o i hit
      have oa := o_at (show i < 7 by omega)
      refine (sg_X10_thoughts_4 s_E (fun _ => ⟨oa.2, by omega⟩)).trans ?_
      rw [if_pos (nI_lt (by omega) (by omega)), oa.1, hM.o i hit, sh31 (by omega), show (1 : Int32) = nI 1 from rfl, nI_shl (by omega), ← nI_or, nI_add]
      exact ih (i + 1) _ (by omega) (or7 ha (sl_lt (by omega)))
  refine (first p 0 0 (by omega) (by decide)).trans ?_
  refine (x_roots (d := d + 3) s_E ok hM).trans ?_
  refine (sg_X10_thoughts_33 (d := d + 5) s_E).trans ?_
  refine (x_all (d := d + 1) s_E ok hM).trans ?_
  refine (sg_X10_thoughts_38 (d := d + 5) s_E).trans ?_
  exact e1 Q
end WM
