section PLC
variable {d : Nat} {E : pEv} {r r' r1 r2 : Nat → Nat → Int32} {t t' : Th} {X : Tx} {Q : Option Value → pH → Prop} {o' : Nat → Nat}
theorem pgn : ∀ n (f : Nat → Nat), (∀ i, i < n → f i < n) → (∀ i j, i < n → j < n → f i = f j → i = j) → ∀ j, j < n → ∃ p, p < n ∧ f p = j := by
  intro n
  induction n with
  | zero => intro f _ _ j hj; omega
  | succ n ih =>
    intro f h1 h2 j hj
    have hv := h1 n (by omega)
    have nv : ∀ i, i < n → f i ≠ f n := fun i hi e => by have := h2 i n (by omega) (by omega) e; omega
    have IH := ih (fun i => if f i = n then f n else f i) (fun i hi => by
      show (if f i = n then f n else f i) < n
      have := h1 i (by omega)
      have := nv i hi
      by_cases c : f i = n
      · rw [if_pos c]; omega
      · rw [if_neg c]; omega) (fun i k hi hk e => by
      have e : (if f i = n then f n else f i) = (if f k = n then f n else f k) := e
      by_cases c : f i = n
      · rw [if_pos c] at e
        by_cases c2 : f k = n
        · exact h2 i k (by omega) (by omega) (c.trans c2.symm)
        · rw [if_neg c2] at e
          exact absurd e.symm (nv k hk)
      · rw [if_neg c] at e
        by_cases c2 : f k = n
        · rw [if_pos c2] at e
          exact absurd e (nv i hi)
        · rw [if_neg c2] at e
          exact h2 i k (by omega) (by omega) e)
    by_cases c : j = f n
    · exact ⟨n, by omega, c.symm⟩
    · by_cases c2 : j = n
      · obtain ⟨p, hp, e⟩ := IH (f n) (by omega)
        have e : (if f p = n then f n else f p) = f n := e
        by_cases c3 : f p = n
        · exact ⟨p, by omega, c3.trans c2.symm⟩
        · rw [if_neg c3] at e
          exact absurd e (nv p hp)
      · obtain ⟨p, hp, e⟩ := IH j (by omega)
        have e : (if f p = n then f n else f p) = j := e
        by_cases c3 : f p = n
        · rw [if_pos c3] at e
          exact absurd e.symm c
        · rw [if_neg c3] at e
          exact ⟨p, by omega, e⟩
theorem fi_v {g : Nat → Int32} {v : Int32} {s p : Nat} (hp : p < s) (h : g p = v) (h2 : ∀ i, i < p → g i ≠ v) : fi g v s = nI p := by
  have key : ∀ k i, i + k = s → i ≤ p → itx (fun i (_ : Unit) => g i == v) (fun i _ => nI i) (fun _ a => a) (fun _ => -1) k i () = nI p := by
    intro k
    induction k with
    | zero => intro i h3 h4; omega
    | succ k ih =>
      intro i h3 h4
      show (if (g i == v) = true then nI i else itx (fun i (_ : Unit) => g i == v) (fun i _ => nI i) (fun _ a => a) (fun _ => -1) k (i + 1) ()) = nI p
      by_cases c : i = p
      · subst c
        rw [if_pos (beq_iff_eq.mpr h)]
      · rw [if_neg (fun q => h2 i (by omega) (beq_iff_eq.mp q))]
        exact ih (i + 1) (by omega) (by omega)
  exact key s 0 (by omega) (by omega)
/-- the order with j moved from p to q -/
def mvO (o : Nat → Nat) (p q j : Nat) : Nat → Nat := fun k => if k < q then (if k < p then o k else o (k + 1)) else if k = q then j else if k - 1 < p then o (k - 1) else o k
theorem mvO_lt {n p q j : Nat} {o : Nat → Nat} (h : ∀ i, i < n → o i < n) (hq : q < n) (hj : j < n) (hp : p < n) : ∀ i, i < n → mvO o p q j i < n := fun i hi => by
  unfold mvO
  by_cases c1 : i < q
  · rw [if_pos c1]
    by_cases c2 : i < p
    · rw [if_pos c2]; exact h _ hi
    · rw [if_neg c2]; exact h _ (by omega)
  · rw [if_neg c1]
    by_cases c2 : i = q
    · rw [if_pos c2]; exact hj
    · rw [if_neg c2]
      by_cases c3 : i - 1 < p
      · rw [if_pos c3]; exact h _ (by omega)
      · rw [if_neg c3]; exact h _ hi
/-- where the number at a place of the new order stood -/
def mvX (p q : Nat) : Nat → Nat := fun k => if k < q then (if k < p then k else k + 1) else if k = q then p else if k - 1 < p then k - 1 else k
theorem mvO_x {p q j : Nat} {o : Nat → Nat} (e : o p = j) (k : Nat) : mvO o p q j k = o (mvX p q k) := by
  unfold mvO mvX
  by_cases c1 : k < q
  · rw [if_pos c1, if_pos c1]
    by_cases c2 : k < p
    · rw [if_pos c2, if_pos c2]
    · rw [if_neg c2, if_neg c2]
  · rw [if_neg c1, if_neg c1]
    by_cases c2 : k = q
    · rw [if_pos c2, if_pos c2, e]
    · rw [if_neg c2, if_neg c2]
      by_cases c3 : k - 1 < p
      · rw [if_pos c3, if_pos c3]
      · rw [if_neg c3, if_neg c3]
theorem mvX_lt {n p q i : Nat} (hp : p < n) (hq : q < n) (hi : i < n) : mvX p q i < n := by
  unfold mvX
  by_cases c1 : i < q
  · rw [if_pos c1]
    by_cases c2 : i < p
    · rw [if_pos c2]; exact hi
    · rw [if_neg c2]; omega
  · rw [if_neg c1]
    by_cases c2 : i = q
    · rw [if_pos c2]; exact hp
    · rw [if_neg c2]
      by_cases c3 : i - 1 < p
      · rw [if_pos c3]; omega
      · rw [if_neg c3]; exact hi
theorem mvX_i : ∀ p, p < 7 → ∀ q, q < 7 → ∀ i, i < 7 → ∀ k, k < 7 → mvX p q i = mvX p q k → i = k := by decide +kernel
theorem o_a1 : ∀ k, k < 7 → ((80 + nI k) + 1).toNatClampNeg = 81 + k ∧ ¬ ((80 + nI k) + 1) < 0 ∧ (80 + nI k - 1).toNatClampNeg = 79 + k ∧ ¬ (80 + nI k - 1) < 0 := by decide +kernel
theorem st_place (s_E : oE E) (hI : Inv r) {x y : Int32} : stI E d r 104 [.ref 10, .int x, .int y] 198 [.ref 101, .int x, .int y] := by
  obtain ⟨t, X, ok, xo, hP⟩ := hI.1
  obtain ⟨hC, hX, hM, hXM, hy⟩ := id hP
  have hn := ok.n
  have pC : ∀ Q, wX (d + 70) 104 [.ref 10, .int x, .int y] (mkH E r) Q = wG (d + 69) 104 (5, [.ref 10, .int x, .int y, .retAddr 0], [.int (gS t x)], mkH E r) Q := fun Q => by
    refine (en_X9_place (d := d + 69) s_E).trans ?_
    refine (x_X9_stands (d := d + 67) s_E).trans ?_
    rw [gS_C hC]
    rfl
  have pM : ∀ ra, tM t ra → ∀ Q, wX (d + 70) 198 [.ref 101, .int x, .int y] (mkH E ra) Q = wG (d + 69) 198 (5, [.ref 101, .int x, .int y, .retAddr 0, .retAddr 0], [.int (gS t x)], mkH E ra) Q := fun ra hra Q => by
    refine (en_X10_place (d := d + 69) s_E).trans ?_
    refine (x_X10_isScene (d := d + 67) s_E).trans ?_
    rw [gS_M hra]
    rfl
  have eC1 : ∀ Q, wX (d + 69) 136 [.ref 10, .int (-1000000001)] (mkH E r) (fun v h' => wG (d + 69) 104 (22, [.ref 10, .int x, .int y, .retAddr 0], pv v [], h') Q) = Q (some (.int (er 1))) (mkH E (eC r 1)) := fun Q => by
    rw [er1]
    refine (x_wr (d := d + 67) s_E (by decide)).trans ?_
    exact sg_X9_place_22 (d := d + 69) s_E
  have eM1 : ∀ ra Q, wX (d + 69) 153 [.ref 101, .int 1] (mkH E ra) (fun v h' => wG (d + 69) 198 (31, [.ref 101, .int x, .int y, .retAddr 0, .retAddr 0], pv v [], h') Q) = Q (some (.int (er 1))) (mkH E (eM ra 1)) := fun ra Q => by
    refine (x_fin (d := d + 68) (k := 1) s_E (by decide)).trans ?_
    exact sg_X10_place_31 (d := d + 69) s_E
  rcases gS_s ok x with h | ⟨j, hj, rfl, h⟩
  · refine st_e hI (k := 1) (by decide) (fun Q => ?_) (fun Q => ?_)
    · rw [pC, h]
      refine (sg_X9_place_5 (d := d + 69) s_E).trans ?_
      rw [if_pos rfl]; exact eC1 Q
    · rw [pM _ (tM_eC hM), h]
      refine (sg_X10_place_5 (d := d + 69) s_E).trans ?_
      rw [if_pos rfl]; exact eM1 _ Q
  · have qC : ∀ Q, wX (d + 70) 104 [.ref 10, .int (nI j), .int y] (mkH E r) Q = wG (d + 69) 104 (13, [.ref 10, .int (nI j), .int y, .retAddr 0], [.int (gS t y)], mkH E r) Q := fun Q => by
      rw [pC, h]
      refine (sg_X9_place_5 (d := d + 69) s_E).trans ?_
      rw [if_neg (by decide)]
      refine (x_X9_isPlace (d := d + 67) s_E).trans ?_
      rw [gP_C hC]
      rfl
    have qM : ∀ ra, tM t ra → ∀ Q, wX (d + 70) 198 [.ref 101, .int (nI j), .int y] (mkH E ra) Q = wG (d + 69) 198 (23, [.ref 101, .int (nI j), .int y, .retAddr 0, .retAddr 0], [.int (gS t y)], mkH E ra) Q := fun ra hra Q => by
      rw [pM _ hra, h]
      refine (sg_X10_place_5 (d := d + 69) s_E).trans ?_
      rw [if_neg (by decide)]
      refine (x_X10_in (d := d + 68) s_E).trans ?_
      rw [gP_M hra]
      rfl
    rcases gS_s ok y with h2 | ⟨q, hq, rfl, h2⟩
    · refine st_e hI (k := 1) (by decide) (fun Q => ?_) (fun Q => ?_)
      · rw [qC, h2]
        refine (sg_X9_place_13 (d := d + 69) s_E).trans ?_
        rw [if_pos rfl]; exact eC1 Q
      · rw [qM _ (tM_eC hM), h2]
        refine (sg_X10_place_23 (d := d + 69) s_E).trans ?_
        rw [if_pos rfl]; exact eM1 _ Q
    · obtain ⟨p, hp, ep⟩ := pgn t.n t.o ok.o ok.oi j hj
      obtain ⟨n', hn'⟩ : ∃ n', t.n = n' + 1 := ⟨t.n - 1, by omega⟩
      have up : ∀ i, i < t.n → i ≠ p → t.o i ≠ j := fun i hi hne e => hne (ok.oi i p hi hp (e.trans ep.symm))
      have ef : fi (r 33) (nI j) t.n = nI p := fi_v hp (by rw [hC.o p hp, ep]) (fun i hi e => by
        rw [hC.o i (by omega)] at e
        have hoi := ok.o i (by omega)
        exact up i (by omega) (by omega) ((nI_eq (by omega) (by omega)).mp e))
      have hs0 : rK r 32 7 (n' + 1) := hn' ▸ rK32 ok hC
      -- the class's cells
      let ra : Nat → Nat → Int32 := uI (fR r 33 n' (fun k => if k < p then r 33 k else r 33 (k + 1))) 32 1 (nI n')
      have hs1 : rK ra 32 7 n' := ⟨uI_e, by omega, by decide⟩
      let rb : Nat → Nat → Int32 := uI (fR ra 33 (n' + 1) (fun k => if k < q then ra 33 k else if k = q then nI j else ra 33 (k - 1))) 32 1 (nI (n' + 1))
      have era : ∀ k, k < n' → ra 33 k = nI (if k < p then t.o k else t.o (k + 1)) := fun k hk => by
        show uI _ 32 1 _ 33 k = _
        rw [uI_o (by omega), fR_at hk]
        by_cases c : k < p
        · rw [if_pos c, if_pos c, hC.o k (by omega)]
        · rw [if_neg c, if_neg c, hC.o (k + 1) (by omega)]
      have hrb : ∀ k, k < t.n → rb 33 k = nI (mvO t.o p q j k) := fun k hk => by
        show uI _ 32 1 _ 33 k = _
        rw [uI_o (by omega), fR_at (by omega)]
        unfold mvO
        by_cases c : k < q
        · rw [if_pos c, if_pos c, era k (by omega)]
        · rw [if_neg c, if_neg c]
          by_cases c2 : k = q
          · rw [if_pos c2, if_pos c2]
          · rw [if_neg c2, if_neg c2, era (k - 1) (by omega), show k - 1 + 1 = k by omega]
      have srb : sE (fun a k => a = 33 ∨ a = 32) r rb := sE_tr (r' := ra) (sE_tr (fR_E (fun k _ => Or.inl rfl)) (sE_u (Or.inr rfl))) (sE_tr (fR_E (fun k _ => Or.inl rfl)) (sE_u (Or.inr rfl)))
      have rb32 : rb 32 1 = r 32 1 := by
        rw [hC.o1, hn']; exact uI_e
      have srb' : sE (fun a _ => a = 33) r rb := fun a k h => by
        by_cases c : a = 32 ∧ k = 1
        · rw [c.1, c.2]; exact rb32
        · by_cases c2 : a = 32
          · subst c2
            show uI _ 32 1 _ 32 k = _
            rw [uI_o (by omega), fR_o (by omega)]
            show uI _ 32 1 _ 32 k = _
            rw [uI_o (by omega), fR_o (by omega)]
          · exact srb a k (by omega)
      have hMb : tM t rb := hM.fr (funext fun k => srb' 102 k (by omega))
      -- the model: the place
      have pl : ∀ Q, ∀ m i, i + m = p → wG (d + 68) 197 (2, [.ref 101, .int (nI j), .int (nI i)], [], mkH E rb) Q = Q (some (.int (nI p))) (mkH E rb) := by
        intro Q m
        induction m with
        | zero =>
          intro i hi
          obtain rfl : i = p := by omega
          have oa := o_at (show i < 7 by omega)
          refine (sg_X10_placeOf_2 (d := d + 68) s_E ⟨oa.2, by omega⟩).trans ?_
          rw [oa.1, hMb.o i hp, ep, if_pos rfl]
        | succ m ih =>
          intro i hi
          have oa := o_at (show i < 7 by omega)
          have hoi := ok.o i (by omega)
          refine (sg_X10_placeOf_2 (d := d + 68) s_E ⟨oa.2, by omega⟩).trans ?_
          rw [oa.1, hMb.o i (by omega), if_neg (fun e => up i (by omega) (by omega) ((nI_eq (by omega) (by omega)).mp e)), ← nI_succ]
          exact ih (i + 1) (by omega)
      -- the model: up
      have lu : ∀ m i rr, i + m = q → p ≤ i → (∀ k, k < t.n → rr 102 (80 + k) = nI (if p ≤ k ∧ k < i then t.o (k + 1) else t.o k)) → sE (fun a k => a = 102 ∧ 80 ≤ k ∧ k ≤ 86) rb rr → ∃ rs, (∀ k, k < t.n → rs 102 (80 + k) = nI (if p ≤ k ∧ k < q then t.o (k + 1) else t.o k)) ∧ sE (fun a k => a = 102 ∧ 80 ≤ k ∧ k ≤ 86) rb rs ∧ ∀ Q, wG (d + 69) 198 (41, [.ref 101, .int (nI j), .int (nI q), .int (nI p), .int (nI i)], [], mkH E rr) Q = wG (d + 69) 198 (78, [.ref 101, .int (nI j), .int (nI q), .int (nI p), .int (nI p)], [], mkH E rs) Q := by
        intro m
        induction m with
        | zero =>
          intro i rr hi hpi h1 h2
          obtain rfl : i = q := by omega
          refine ⟨rr, h1, h2, fun Q => ?_⟩
          refine (sg_X10_place_41 (d := d + 69) s_E (fun w => absurd w (nI_nlt (Nat.le_refl _) (by omega))) (fun w => absurd w (nI_nlt (Nat.le_refl _) (by omega)))).trans ?_
          rw [if_neg (nI_nlt (Nat.le_refl _) (by omega))]
        | succ m ih =>
          intro i rr hi hpi h1 h2
          have oa := o_at (show i < 7 by omega)
          obtain ⟨o1, o2, _⟩ := o_a1 i (by omega)
          obtain ⟨rs, g1, g2, g3⟩ := ih (i + 1) (uI rr 102 (80 + i) (rr 102 (81 + i))) (by omega) (by omega) (fun k hk => by
            by_cases c : k = i
            · subst c
              rw [uI_e, show 81 + k = 80 + (k + 1) by omega, h1 (k + 1) (by omega), if_neg (by omega), if_pos (by omega)]
            · rw [uI_o (by omega), h1 k hk]
              by_cases c2 : p ≤ k ∧ k < i
              · rw [if_pos c2, if_pos (by omega)]
              · rw [if_neg c2, if_neg (by omega)]) (sE_tr h2 (sE_u ⟨rfl, by omega, by omega⟩))
          refine ⟨rs, g1, g2, fun Q => ?_⟩
          refine (sg_X10_place_41 (d := d + 69) s_E (fun w => ⟨o2, by omega⟩) (fun w => ⟨oa.2, by omega⟩)).trans ?_
          rw [if_pos (nI_lt (by omega) (by omega)), oa.1, o1, ← nI_succ]
          exact g3 Q
      -- the model: down
      have ld : ∀ m i rr, q + m = i → i ≤ p → (∀ k, k < t.n → rr 102 (80 + k) = nI (if i < k ∧ k ≤ p then t.o (k - 1) else t.o k)) → sE (fun a k => a = 102 ∧ 80 ≤ k ∧ k ≤ 86) rb rr → ∃ rs, (∀ k, k < t.n → rs 102 (80 + k) = nI (if k = q then j else if q < k ∧ k ≤ p then t.o (k - 1) else t.o k)) ∧ sE (fun a k => a = 102 ∧ 80 ≤ k ∧ k ≤ 86) rb rs ∧ ∀ Q, wG (d + 69) 198 (78, [.ref 101, .int (nI j), .int (nI q), .int (nI p), .int (nI i)], [], mkH E rr) Q = Q (some (.int (nI p))) (mkH E rs) := by
        intro m
        induction m with
        | zero =>
          intro i rr hi hpi h1 h2
          obtain rfl : q = i := by omega
          have oa := o_at (show q < 7 by omega)
          refine ⟨uI rr 102 (80 + q) (nI j), fun k hk => ?_, sE_tr h2 (sE_u ⟨rfl, by omega, by omega⟩), fun Q => ?_⟩
          · by_cases c : k = q
            · rw [c, uI_e, if_pos rfl]
            · rw [uI_o (by omega), h1 k hk, if_neg c]
          · refine (sg_X10_place_78 (d := d + 69) s_E (fun w => absurd w (nI_nlt (Nat.le_refl _) (by omega))) (fun w => absurd w (nI_nlt (Nat.le_refl _) (by omega))) (fun _ => ⟨oa.2, by omega⟩)).trans ?_
            rw [if_neg (nI_nlt (Nat.le_refl _) (by omega)), oa.1]
        | succ m ih =>
          intro i rr hi hpi h1 h2
          obtain ⟨i', rfl⟩ : ∃ i', i = i' + 1 := ⟨i - 1, by omega⟩
          have oa := o_at (show i' + 1 < 7 by omega)
          have oq := o_at (show q < 7 by omega)
          obtain ⟨_, _, o1, o2⟩ := o_a1 (i' + 1) (by omega)
          obtain ⟨rs, g1, g2, g3⟩ := ih i' (uI rr 102 (80 + (i' + 1)) (rr 102 (79 + (i' + 1)))) (by omega) (by omega) (fun k hk => by
            by_cases c : k = i' + 1
            · subst c
              rw [uI_e, show 79 + (i' + 1) = 80 + i' by omega, h1 i' (by omega), if_neg (by omega), if_pos (by omega), show i' + 1 - 1 = i' by omega]
            · rw [uI_o (by omega), h1 k hk]
              by_cases c2 : i' + 1 < k ∧ k ≤ p
              · rw [if_pos c2, if_pos (by omega)]
              · rw [if_neg c2, if_neg (by omega)]) (sE_tr h2 (sE_u ⟨rfl, by omega, by omega⟩))
          refine ⟨rs, g1, g2, fun Q => ?_⟩
          refine (sg_X10_place_78 (d := d + 69) s_E (fun w => ⟨o2, by omega⟩) (fun w => ⟨oa.2, by omega⟩) (fun _ => ⟨oq.2, by omega⟩)).trans ?_
          rw [if_pos (nI_lt (by omega) (by omega)), oa.1, o1, nI_dec]
          exact g3 Q
      -- both
      have fin : ∃ rs, (∀ k, k < t.n → rs 102 (80 + k) = nI (mvO t.o p q j k)) ∧ sE (fun a k => a = 102 ∧ 80 ≤ k ∧ k ≤ 86) rb rs ∧ ∀ Q, wG (d + 69) 198 (41, [.ref 101, .int (nI j), .int (nI q), .int (nI p), .int (nI p)], [], mkH E rb) Q = Q (some (.int (nI p))) (mkH E rs) := by
        rcases Nat.lt_or_ge q p with hqp | hqp
        · obtain ⟨rs, g1, g2, g3⟩ := ld (p - q) p rb (by omega) (Nat.le_refl _) (fun k hk => by rw [hMb.o k hk, if_neg (by omega)]) sE_rf
          refine ⟨rs, fun k hk => (g1 k hk).trans ?_, g2, fun Q => ?_⟩
          · unfold mvO
            by_cases c : k < q
            · rw [if_neg (by omega), if_neg (by omega), if_pos c, if_pos (by omega)]
            · rw [if_neg c]
              by_cases c2 : k = q
              · rw [if_pos c2, if_pos c2]
              · rw [if_neg c2, if_neg c2]
                by_cases c3 : k - 1 < p
                · rw [if_pos c3, if_pos (by omega)]
                · rw [if_neg c3, if_neg (by omega)]
          · refine (sg_X10_place_41 (d := d + 69) s_E (fun w => absurd w (nI_nlt (by omega) (by omega))) (fun w => absurd w (nI_nlt (by omega) (by omega)))).trans ?_
            rw [if_neg (nI_nlt (by omega) (by omega))]
            exact g3 Q
        · obtain ⟨rs, g1, g2, g3⟩ := lu (q - p) p rb (by omega) (Nat.le_refl _) (fun k hk => by rw [hMb.o k hk, if_neg (by omega)]) sE_rf
          have oq := o_at (show q < 7 by omega)
          refine ⟨uI rs 102 (80 + q) (nI j), fun k hk => ?_, sE_tr g2 (sE_u ⟨rfl, by omega, by omega⟩), fun Q => ?_⟩
          · unfold mvO
            by_cases c2 : k = q
            · rw [c2, uI_e, if_neg (by omega), if_pos rfl]
            · rw [uI_o (by omega), g1 k hk]
              by_cases c : k < q
              · rw [if_pos c]
                by_cases c3 : k < p
                · rw [if_pos c3, if_neg (by omega)]
                · rw [if_neg c3, if_pos (by omega)]
              · rw [if_neg c, if_neg c2, if_neg (by omega), if_neg (by omega)]
          · refine (g3 Q).trans ?_
            refine (sg_X10_place_78 (d := d + 69) s_E (fun w => absurd w (nI_nlt (by omega) (by omega))) (fun w => absurd w (nI_nlt (by omega) (by omega))) (fun _ => ⟨oq.2, by omega⟩)).trans ?_
            rw [if_neg (nI_nlt (by omega) (by omega)), oq.1]
      obtain ⟨rs, f1, f2, f3⟩ := fin
      refine ⟨nI p, rb, rs, fun Q => ?_, fun Q => ?_, Inv_o hI ok xo hP (o' := mvO t.o p q j) (mvO_lt ok.o hq hj hp) (fun i k hi hk e => ?_) (fun i hi => ?_) f1 (sE_tr (sE_mo srb' (fun a k h => Or.inl h)) (sE_mo f2 (fun a k h => Or.inr (Or.inl h))))⟩
      · rw [qC, h2]
        refine (sg_X9_place_13 (d := d + 69) s_E).trans ?_
        rw [if_neg (by decide)]
        refine (x_X4_find (d := d + 67) (c_h0 := 7) s_E (oR rfl) (rK32 ok hC)).trans ?_
        rw [ef]
        refine (sg_X9_place_34 (d := d + 69) s_E).trans ?_
        refine (x_X4_removeAt (d := d + 68) (c_h0 := 7) s_E (oR rfl) hs0 (by omega)).trans ?_
        refine (sg_X9_place_46 (d := d + 69) s_E).trans ?_
        refine (x_X4_insert (d := d + 68) (c_h0 := 7) s_E (oR rfl) hs1 (by omega) (by omega)).trans ?_
        exact sg_X9_place_58 (d := d + 69) s_E
      · rw [qM _ hMb, h2]
        refine (sg_X10_place_23 (d := d + 69) s_E).trans ?_
        rw [if_neg (by decide)]
        refine (en_X10_placeOf (d := d + 68) s_E).trans ?_
        refine (pl _ p 0 (by omega)).trans ?_
        refine (sg_X10_place_37 (d := d + 69) s_E).trans ?_
        exact f3 Q
      · rw [mvO_x ep, mvO_x ep] at e
        exact mvX_i p (by omega) q (by omega) i (by omega) k (by omega) (ok.oi _ _ (mvX_lt hp hq hi) (mvX_lt hp hq hk) e)
      · rw [f2 33 i (by omega)]
        exact hrb i hi
end PLC
