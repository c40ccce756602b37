/-! other wills: the class -/
def dfl (t : Th) : Nat → Nat → List Nat
  | 0, _ => []
  | k + 1, c => if an c (st t) = 0 then (wo t c ^^^ hp t) :: dfl t k (c + 1) else dfl t k (c + 1)
def cq (g : Nat) : List Nat → Nat
  | [] => 0
  | x :: l => (if x &&& g = 0 then 1 else 0) + cq g l
section WC
variable {d : Nat} {E : pEv} {r r' : Nat → Nat → Int32} {Q : Option Value → pH → Prop} {t : Th}
theorem wo_lt (ok : tOK t) {w : Nat} : wo t w < 128 := Nat.lt_of_lt_of_le (oc_ltk (k := t.n)) (p128 ok)
theorem xo7 {a b : Nat} (ha : a < 128) (hb : b < 128) : a ^^^ b < 128 := Nat.xor_lt_two_pow (n := 7) ha hb
theorem nb9_neg {b : Nat} (h : b = 999 ∨ b < 128) : (nb9 b < 0) = (b = 999) := by
  unfold nb9
  rcases h with h | h
  · rw [if_pos h]; exact propext ⟨fun _ => h, fun _ => by decide⟩
  · rw [if_neg (by omega)]; exact propext ⟨fun q => absurd q (nI_pos (by omega)), fun q => by omega⟩
theorem mdF_b {s v c b : Nat} (hc : c < 128) (h : b = 999 ∨ b < 128) : mdF t s v c b = 999 ∨ mdF t s v c b < 128 := by
  unfold mdF
  split
  · exact Or.inr hc
  · exact h
theorem x_out (s_E : oE E) (ok : tOK t) (hC : tC t r) {w : Nat} (hw : w < 128) : wX (d + 3) 27 [.ref 11, .int (nI w), .int (-1), .int 0] (mkH E r) Q = Q (some (.int (nI (wo t w)))) (mkH E r) :=
  x_X2_outcome (ki := 0) s_E ok hC hw no7 (by decide)
theorem x_leastChange (s_E : oE E) (ok : tOK t) (hC : tC t r) {s v : Nat} (hs : s < t.n) (hv : v ≤ 1) : wX (d + 4) 92 [.ref 78, .int (nI s), .int (nI v)] (mkH E r) Q = Q (some (.int (nb9 (mdn t s v)))) (mkH E r) := by
  have hn := ok.n
  have h2n := p128 ok
  have hst := st_lt (t := t)
  have hwl := wl_lt ok
  have h7 : s < 7 := by omega
  refine (en_X8_leastChange (d := d + 3) s_E).trans ?_
  refine (x_X2_starts (d := d + 1) s_E ok hC).trans ?_
  refine (sg_X8_leastChange_7 (d := d + 3) s_E).trans ?_
  refine (x_X2_wills (d := d + 1) s_E ok hC).trans ?_
  refine (sg_X8_leastChange_17 (d := d + 3) s_E).trans ?_
  have key : ∀ k c b v7, c + k = 2 ^ t.n → (b = 999 ∨ b < 128) → wG (d + 3) 92 (25, [.ref 78, .int (nI s), .int (nI v), .int (nI (st t) ^^^ (-1)), .int (nI (wl t)), .int (nb9 b), .int (nI c), v7], [], mkH E r) Q = Q (some (.int (nb9 (it (mdF t s v) k c b)))) (mkH E r) := by
    intro k
    induction k with
    | zero =>
      intro c b v7 hk hb
      refine (sg_X8_leastChange_25 (d := d + 3) s_E).trans ?_
      refine (x_X2_all (d := d + 2) s_E).trans ?_
      rw [all_C ok hC]
      refine (sg_X8_leastChange_34 (d := d + 3) s_E).trans ?_
      rw [if_pos (nI_lt (by have := Nat.two_pow_pos t.n; omega) (by omega))]
      rfl
    | succ k ih =>
      intro c b v7 hk hb
      have hc : c < 2 ^ t.n := by omega
      have hc128 : c < 128 := by omega
      refine (sg_X8_leastChange_25 (d := d + 3) s_E).trans ?_
      refine (x_X2_all (d := d + 2) s_E).trans ?_
      rw [all_C ok hC]
      refine (sg_X8_leastChange_34 (d := d + 3) s_E).trans ?_
      rw [if_neg (nI_nlt (by omega) (by omega)), an_t hc128 (by omega), ← nI_xor, ← nI_succ]
      have han : (nI (an c (st t)) = 0) = (an c (st t) = 0) := propext (nI_eq (b := 0) (by have := an_lt (g := st t) hc128; omega) (by decide))
      simp only [nb9_neg hb, han]
      have hit : ∀ b', mdF t s v c b = b' → Q (some (.int (nb9 (it (mdF t s v) k (c + 1) b')))) (mkH E r) = Q (some (.int (nb9 (it (mdF t s v) (k + 1) c b)))) (mkH E r) := by
        intro b' e
        rw [← e]
        rfl
      have skip : ¬ (an c (st t) = 0 ∧ (b = 999 ∨ bc c < bc b)) → ∀ x7, wG (d + 3) 92 (25, [.ref 78, .int (nI s), .int (nI v), .int (nI (st t) ^^^ (-1)), .int (nI (wl t)), .int (nb9 b), .int (nI (c + 1)), .int x7], [], mkH E r) Q = Q (some (.int (nb9 (it (mdF t s v) (k + 1) c b)))) (mkH E r) := by
        intro hno x7
        refine (ih (c + 1) b _ (by omega) hb).trans ?_
        refine hit b ?_
        unfold mdF
        rw [if_neg (fun q => hno ⟨q.1, q.2.1⟩)]
      have go : an c (st t) = 0 → (b = 999 ∨ bc c < bc b) → ∀ x7, wX (d + 3) 27 [.ref 11, .int (nI (wl t ^^^ c)), .int (-1), .int 0] (mkH E r) (fun v1 h' => wG (d + 3) 92 (88, [.ref 78, .int (nI s), .int (nI v), .int (nI (st t) ^^^ (-1)), .int (nI (wl t)), .int (nb9 b), .int (nI c), .int x7], pv v1 [], h') Q) = Q (some (.int (nb9 (it (mdF t s v) (k + 1) c b)))) (mkH E r) := by
        intro h1 h2 x7
        refine (x_out (d := d) s_E ok hC (xo7 (by omega) hc128)).trans ?_
        refine (sg_X8_leastChange_88 (d := d + 3) s_E).trans ?_
        rw [sh31 (by omega), nI_bt (wo_lt ok) h7, ← nI_succ]
        have hbt := @bt_le (wo t (wl t ^^^ c)) s
        have e : (nI (bt (wo t (wl t ^^^ c)) s) = nI v) = (bt (wo t (wl t ^^^ c)) s = v) := propext (nI_eq (by omega) (by omega))
        simp only [e]
        by_cases q : bt (wo t (wl t ^^^ c)) s = v
        · rw [if_pos q]
          have ec : nI c = nb9 c := by unfold nb9; rw [if_neg (by omega)]
          rw [ec]
          refine (ih (c + 1) c _ (by omega) (Or.inr hc128)).trans ?_
          refine hit c ?_
          unfold mdF
          rw [if_pos ⟨h1, h2, q⟩]
        · rw [if_neg q]
          refine (ih (c + 1) b _ (by omega) hb).trans ?_
          refine hit b ?_
          unfold mdF
          rw [if_neg (fun q2 => q q2.2.2)]
      by_cases hb9 : b = 999
      · rw [if_pos hb9]
        by_cases h0 : an c (st t) = 0
        · rw [if_pos h0]; exact go h0 (Or.inl hb9) _
        · rw [if_neg h0]; exact skip (fun q => h0 q.1) _
      · rw [if_neg hb9]
        have hb2 := hb.resolve_left hb9
        have eb : nb9 b = nI b := by unfold nb9; rw [if_neg hb9]
        refine (x_J6_bitCount_0f7a4 (d := d + 2) s_E).trans ?_
        rw [nI_bc hc128]
        refine (sg_X8_leastChange_47 (d := d + 3) s_E).trans ?_
        refine (x_J6_bitCount_0f7a4 (d := d + 2) s_E).trans ?_
        rw [eb, nI_bc hb2]
        refine (sg_X8_leastChange_52 (d := d + 3) s_E).trans ?_
        rw [an_t hc128 (by omega), ← nI_xor, ← nI_succ, ← eb]
        have e : (nI (bc c) < nI (bc b)) = (bc c < bc b) := propext (nI_ltI (by have := bc_le c; omega) (by have := bc_le b; omega))
        simp only [han, e]
        by_cases h1 : bc c < bc b
        · rw [if_pos h1]
          by_cases h0 : an c (st t) = 0
          · rw [if_pos h0]; exact go h0 (Or.inr h1) _
          · rw [if_neg h0]; exact skip (fun q => h0 q.1) _
        · rw [if_neg h1]
          have hno : ¬ (an c (st t) = 0 ∧ (b = 999 ∨ bc c < bc b)) := fun q => q.2.elim hb9 h1
          by_cases h0 : an c (st t) = 0
          · rw [if_pos h0]; exact skip hno _
          · rw [if_neg h0]; exact skip hno _
  exact key (2 ^ t.n) 0 999 _ (by omega) (Or.inl rfl)
def p79 : Nat → Nat → Prop := fun a k => (a = 79 ∧ k = 1) ∨ a = 80
theorem p79S (s : sE p79 r r') : sE SC r r' := sE_mo s (fun a k h => by unfold p79 at h; unfold SC; omega)
theorem dfl_len : ∀ k c, (dfl t k c).length ≤ k := by
  intro k
  induction k with
  | zero => intro c; exact Nat.le_refl _
  | succ k ih =>
    intro c
    unfold dfl
    split
    · have := ih (c + 1)
      show (dfl t k (c + 1)).length + 1 ≤ k + 1
      omega
    · have := ih (c + 1)
      omega
theorem dfl_lt (ok : tOK t) : ∀ k c i, i < (dfl t k c).length → (dfl t k c).getD i 0 < 128 := by
  intro k
  induction k with
  | zero => intro c i h; exact absurd h (Nat.not_lt_zero _)
  | succ k ih =>
    intro c i
    unfold dfl
    split
    · intro h
      cases i with
      | zero => exact xo7 (wo_lt ok) (hp_lt ok)
      | succ i => exact ih (c + 1) i (by simpa using h)
    · exact ih (c + 1) i
theorem x_compare (s_E : oE E) (ok : tOK t) (hC : tC t r) : ∃ r', sE p79 r r' ∧ r' 79 1 = nI (dfl t (2 ^ t.n) 0).length ∧ (∀ i, i < (dfl t (2 ^ t.n) 0).length → r' 80 i = nI ((dfl t (2 ^ t.n) 0).getD i 0)) ∧ ∀ Q, wX (d + 5) 93 [.ref 78] (mkH E r) Q = Q none (mkH E r') := by
  have hn := ok.n
  have h2n := p128 ok
  have hst := st_lt (t := t)
  have key : ∀ k c j r, c + k = 2 ^ t.n → j ≤ c → tC t r → r 79 1 = nI j → ∃ r', sE p79 r r' ∧ r' 79 1 = nI (j + (dfl t k c).length) ∧ (∀ i, i < j → r' 80 i = r 80 i) ∧ (∀ i, i < (dfl t k c).length → r' 80 (j + i) = nI ((dfl t k c).getD i 0)) ∧ ∀ Q, wG (d + 4) 93 (27, [.ref 78, .int (nI (st t) ^^^ (-1)), .int (nI (hp t)), .int (nI c)], [], mkH E r) Q = Q none (mkH E r') := by
    intro k
    induction k with
    | zero =>
      intro c j r hk hj hC h79
      refine ⟨r, sE_rf, h79, fun i _ => rfl, fun i hi => absurd hi (Nat.not_lt_zero _), fun Q => ?_⟩
      refine (sg_X8_compare_27 (d := d + 4) s_E).trans ?_
      refine (x_X2_all (d := d + 3) s_E).trans ?_
      rw [all_C ok hC]
      refine (sg_X8_compare_35 (d := d + 4) s_E).trans ?_
      rw [if_pos (nI_lt (by have := Nat.two_pow_pos t.n; omega) (by omega))]
    | succ k ih =>
      intro c j r hk hj hC h79
      have hc128 : c < 128 := by omega
      have pre : ∀ Q, wG (d + 4) 93 (27, [.ref 78, .int (nI (st t) ^^^ (-1)), .int (nI (hp t)), .int (nI c)], [], mkH E r) Q = if an c (st t) = 0 then wX (d + 4) 59 [.ref 79, .int (nI (wo t c ^^^ hp t))] (mkH E r) (fun v h' => wG (d + 4) 93 (63, [.ref 78, .int (nI (st t) ^^^ (-1)), .int (nI (hp t)), .int (nI c)], pv v [], h') Q) else wG (d + 4) 93 (27, [.ref 78, .int (nI (st t) ^^^ (-1)), .int (nI (hp t)), .int (nI (c + 1))], [], mkH E r) Q := by
        intro Q
        refine (sg_X8_compare_27 (d := d + 4) s_E).trans ?_
        refine (x_X2_all (d := d + 3) s_E).trans ?_
        rw [all_C ok hC]
        refine (sg_X8_compare_35 (d := d + 4) s_E).trans ?_
        rw [if_neg (nI_nlt (by omega) (by omega)), an_t hc128 (by omega), ← nI_succ]
        have han : (nI (an c (st t)) = 0) = (an c (st t) = 0) := propext (nI_eq (b := 0) (by have := an_lt (g := st t) hc128; omega) (by decide))
        simp only [han]
        by_cases h0 : an c (st t) = 0
        · rw [if_pos h0, if_pos h0]
          refine (x_out (d := d + 1) s_E ok hC hc128).trans ?_
          refine (sg_X8_compare_58 (d := d + 4) s_E).trans ?_
          rw [← nI_xor]
        · rw [if_neg h0, if_neg h0]
      unfold dfl
      by_cases h0 : an c (st t) = 0
      · rw [if_pos h0]
        have hadd := add_in (ro := r) (r := 79) (c := 128) (s := j) (v := nI (wo t c ^^^ hp t)) ⟨h79, by omega, by decide⟩ (by omega)
        have s1 : sE p79 r (uI (uI r 80 j (nI (wo t c ^^^ hp t))) 79 1 (nI (j + 1))) := sE_tr (sE_u (Or.inr rfl)) (sE_u (Or.inl ⟨rfl, rfl⟩))
        obtain ⟨r', s2, t2, k2, j2, e2⟩ := ih (c + 1) (j + 1) (uI (uI r 80 j (nI (wo t c ^^^ hp t))) 79 1 (nI (j + 1))) (by omega) (by omega) (tC_s hC hn (p79S s1)) (by rw [uI_at, if_pos ⟨rfl, rfl⟩])
        refine ⟨r', sE_tr s1 s2, ?_, fun i hi => ?_, fun i hi => ?_, fun Q => ?_⟩
        · rw [t2, List.length_cons]; congr 1; omega
        · rw [k2 i (by omega), uI_at, if_neg (by omega), uI_at, if_neg (by omega)]
        · cases i with
          | zero =>
            rw [Nat.add_zero, k2 j (by omega), uI_at, if_neg (by omega), uI_at, if_pos ⟨rfl, rfl⟩]
            rfl
          | succ i =>
            rw [show j + (i + 1) = j + 1 + i by omega, j2 i (by simpa using hi)]
            rfl
        · rw [pre, if_pos h0]
          refine (x_X4_add (d := d + 3) (c_h0 := 128) s_E (oR rfl)).trans ?_
          rw [hadd]
          refine (sg_X8_compare_63 (d := d + 4) s_E).trans ?_
          rw [← nI_succ]
          exact e2 Q
      · rw [if_neg h0]
        obtain ⟨r', s2, t2, k2, j2, e2⟩ := ih (c + 1) j r (by omega) (by omega) hC h79
        exact ⟨r', s2, t2, k2, j2, fun Q => by rw [pre, if_neg h0]; exact e2 Q⟩
  have s1 : sE p79 r (uI r 79 1 0) := sE_u (Or.inl ⟨rfl, rfl⟩)
  obtain ⟨r', s2, t2, k2, j2, e2⟩ := key (2 ^ t.n) 0 0 (uI r 79 1 0) (by omega) (Nat.le_refl _) (tC_s hC hn (p79S s1)) (by rw [uI_at, if_pos ⟨rfl, rfl⟩]; rfl)
  rw [Nat.zero_add] at t2
  refine ⟨r', sE_tr s1 s2, t2, fun i hi => by have := j2 i hi; rw [Nat.zero_add] at this; exact this, fun Q => ?_⟩
  refine (en_X8_compare (d := d + 4) s_E).trans ?_
  refine (x_X2_starts (d := d + 2) s_E ok hC).trans ?_
  refine (sg_X8_compare_7 (d := d + 4) s_E).trans ?_
  refine (x_X2_happening (d := d) s_E ok hC).trans ?_
  refine (sg_X8_compare_17 (d := d + 4) s_E).trans ?_
  refine (x_X4_clear (d := d + 3) (c_h0 := 128) s_E (oR rfl)).trans ?_
  refine (sg_X8_compare_25 (d := d + 4) s_E).trans ?_
  exact e2 Q
theorem cq_dfl {g : Nat} : ∀ k c a, a + cq g (dfl t k c) = it (fun c a => a + al1 t g c) k c a := by
  intro k
  induction k with
  | zero => intro c a; rfl
  | succ k ih =>
    intro c a
    show a + cq g (dfl t (k + 1) c) = it (fun c a => a + al1 t g c) k (c + 1) (a + al1 t g c)
    have ed : dfl t (k + 1) c = if an c (st t) = 0 then (wo t c ^^^ hp t) :: dfl t k (c + 1) else dfl t k (c + 1) := rfl
    have ea : al1 t g c = if an c (st t) = 0 then (if (wo t c ^^^ hp t) &&& g = 0 then 1 else 0) else 0 := rfl
    rw [← ih, ed, ea]
    by_cases h0 : an c (st t) = 0
    · rw [if_pos h0, if_pos h0, Nat.add_assoc]
      rfl
    · rw [if_neg h0, if_neg h0]
      rfl
theorem x_like (s_E : oE E) (ok : tOK t) (hC : tC t r) {p : Nat} (hp : p ≤ t.n) (h1 : r 79 1 = nI (dfl t (2 ^ t.n) 0).length) (h2 : ∀ i, i < (dfl t (2 ^ t.n) 0).length → r 80 i = nI ((dfl t (2 ^ t.n) 0).getD i 0)) : wX (d + 3) 94 [.ref 78, .int (nI p)] (mkH E r) Q = Q (some (.int (nI (tht t p)))) (mkH E r) := by
  have hn := ok.n
  have h2n := p128 ok
  have hlen := dfl_len (t := t) (2 ^ t.n) 0
  have hg : ga t p < 128 := gaR_lt (o := t.o) (fun i hi => by have := ok.o i (by omega); omega)
  refine (en_X8_likeUpTo (d := d + 2) s_E).trans ?_
  refine (x_X2_givenAhead (d := d) s_E ok hC hp).trans ?_
  refine (sg_X8_likeUpTo_8 (d := d + 2) s_E).trans ?_
  have key : ∀ (L : List Nat) j a, j + L.length = (dfl t (2 ^ t.n) 0).length → (∀ i, i < L.length → r 80 (j + i) = nI (L.getD i 0) ∧ L.getD i 0 < 128) → wG (d + 2) 94 (14, [.ref 78, .int (nI p), .int (nI (ga t p)), .int (nI a), .int (nI j)], [], mkH E r) Q = Q (some (.int (nI (a + cq (ga t p) L)))) (mkH E r) := by
    intro L
    induction L with
    | nil =>
      intro j a hj _
      refine (sg_X8_likeUpTo_14 (d := d + 2) s_E).trans ?_
      have hj : j = (dfl t (2 ^ t.n) 0).length := hj
      rw [h1, if_neg (nI_nlt (by omega) (by omega))]
      rfl
    | cons x L ih =>
      intro j a hj hL
      have hj : j + (L.length + 1) = (dfl t (2 ^ t.n) 0).length := hj
      have h0 := hL 0 (by simp)
      have h0a : r 80 j = nI x := h0.1
      have h0b : x < 128 := h0.2
      refine (sg_X8_likeUpTo_14 (d := d + 2) s_E).trans ?_
      rw [h1, if_pos (nI_lt (by omega) (by omega))]
      refine (x_X4_at (d := d + 1) (c_h0 := 128) s_E (oR rfl)).trans ?_
      rw [at_in (s := (dfl t (2 ^ t.n) 0).length) ⟨h1, by omega, by decide⟩ (by omega), h0a]
      refine (sg_X8_likeUpTo_36 (d := d + 2) s_E).trans ?_
      rw [← nI_and]
      have e : (nI (x &&& ga t p) = 0) = (x &&& ga t p = 0) := propext (nI_eq (b := 0) (by have : x &&& ga t p ≤ x := Nat.and_le_left; omega) (by decide))
      simp only [e]
      have nxt : ∀ b, b = (if x &&& ga t p = 0 then 1 else 0) → wG (d + 2) 94 (49, [.ref 78, .int (nI p), .int (nI (ga t p)), .int (nI a), .int (nI j)], [.int (nI b), .int (nI a)], mkH E r) Q = Q (some (.int (nI (a + cq (ga t p) (x :: L))))) (mkH E r) := by
        intro b hb
        refine (sg_X8_likeUpTo_49 (d := d + 2) s_E).trans ?_
        rw [nI_add, ← nI_succ]
        refine (ih (j + 1) (a + b) (by omega) (fun i hi => ?_)).trans ?_
        · have := hL (i + 1) (by simp; omega)
          rw [show j + 1 + i = j + (i + 1) by omega]
          exact this
        · show _ = Q (some (.int (nI (a + ((if x &&& ga t p = 0 then 1 else 0) + cq (ga t p) L))))) (mkH E r)
          rw [← hb, Nat.add_assoc]
      by_cases q : x &&& ga t p = 0
      · rw [if_pos q]
        refine (x_X9_truth (d := d + 1) s_E).trans ?_
        exact nxt 1 (by rw [if_pos q])
      · rw [if_neg q]
        refine (x_X9_truth (d := d + 1) s_E).trans ?_
        exact nxt 0 (by rw [if_neg q])
  refine (key (dfl t (2 ^ t.n) 0) 0 0 (by omega) (fun i hi => ?_)).trans ?_
  · rw [Nat.zero_add]
    exact ⟨h2 i hi, dfl_lt ok _ _ i hi⟩
  · rw [cq_dfl]
    rfl
end WC
