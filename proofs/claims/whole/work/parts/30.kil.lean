section KK
variable {d : Nat} {E : pEv} {ro : Nat → Nat → Int32} {Q : Option Value → pH → Prop} {t : Th}
/-- the least bit: by itself; its number (63: none) -/
def lw (a : Nat) : Nat := if bt a 0 = 1 then 1 else if bt a 1 = 1 then 2 else if bt a 2 = 1 then 4 else if bt a 3 = 1 then 8 else if bt a 4 = 1 then 16 else if bt a 5 = 1 then 32 else 0
def ll (a : Nat) : Int32 := if bt a 0 = 1 then 0 else if bt a 1 = 1 then 1 else if bt a 2 = 1 then 2 else if bt a 3 = 1 then 3 else if bt a 4 = 1 then 4 else if bt a 5 = 1 then 5 else -1
theorem lw_t {a : Nat} (h : a < 64) : nI a &&& (-nI a) = nI (lw a) := by
  have : ∀ a, a < 64 → nI a &&& (-nI a) = nI (lw a) := by decide +kernel
  exact this a h
theorem lw_lt {a : Nat} : lw a < 64 := by
  unfold lw
  (repeat' split) <;> omega
theorem lw_ll {a b : Nat} (h : a < 64) (hb : b < 64) : (b &&& lw a = 0) = (ll a < 0 ∨ ¬ (nI b >>> (ll a &&& 31)) &&& 1 = 1) := by
  have : ∀ a, a < 64 → ∀ b, b < 64 → decide (b &&& lw a = 0) = decide (ll a < 0 ∨ ¬ (nI b >>> (ll a &&& 31)) &&& 1 = 1) := by decide +kernel
  exact propext ⟨fun q => of_decide_eq_true ((this a h b hb) ▸ decide_eq_true q), fun q => of_decide_eq_true ((this a h b hb).symm ▸ decide_eq_true q)⟩
theorem least_lw {a : Nat} (h : a < 64) : f_X9_leastOf (nI (lw a)) = ll a := by
  have : ∀ a, a < 64 → f_X9_leastOf (nI (lw a)) = ll a := by decide +kernel
  exact this a h
/-- does a scene kill -/
def kd (t : Th) (c s : Nat) : Bool := (t.K s == 3 || t.K s == 6) && bt c s == 1
/-- whom, as a set -/
def ks (t : Th) (c s : Nat) : Nat := if kd t c s then lw (t.A s) else 0
theorem ks_lt {c s : Nat} : ks t c s < 64 := by
  unfold ks
  split
  · exact lw_lt
  · decide
theorem x_X2_killedBy (s_E : oE E) (ok : tOK t) (hC : tC t ro) {s c : Nat} (hs : s < t.n) (hc : c < 128) : wX (d + 4) 28 [.ref 11, .int (nI s), .int (nI c)] (mkH E ro) Q = Q (some (.int (nI (ks t c s)))) (mkH E ro) := by
  have h7 : s < 7 := by have := ok.n; omega
  refine (en_X2_killedBy (d := d + 3) s_E).trans ?_
  refine (x_X2_at (d := d + 2) s_E oP11).trans ?_
  rw [sc_at h7]
  refine (sg_X2_killedBy_5 (d := d + 3) s_E (oS11 h7)).trans ?_
  rw [sh31 (by omega), nI_bt hc h7]
  unfold ks kd
  by_cases h1 : bt c s = 1
  · rw [h1, if_pos (show nI 1 = 1 from rfl)]
    refine (x_X9_isUnder0 (d := d) s_E).trans ?_
    rw [hC.K s hs, show (3 : Int32) = nI 3 from rfl, vK_t (ok.K s hs) (by decide)]
    refine (sg_X2_killedBy_23 (d := d + 3) s_E (oS11 h7)).trans ?_
    rw [hC.A s hs, lw_t (ok.A s hs)]
    have e : ∀ k, k < 7 → uK k 3 = if (k == 3 || k == 6) then 1 else 0 := by decide +kernel
    rw [e _ (ok.K s hs)]
    by_cases h2 : (t.K s == 3 || t.K s == 6) = true
    · rw [h2]; simp
    · simp only [Bool.not_eq_true] at h2
      rw [h2]; simp [nI_0]
  · have h3 : bt c s = 0 := by have := @bt_le c s; omega
    rw [h3, if_neg (by decide)]
    simp [nI_0]
theorem x_X10_kills (s_E : oE E) (ok : tOK t) (hM : tM t ro) {s c : Nat} (hs : s < t.n) (hc : c < 128) : wX (d + 2) 179 [.ref 101, .int (nI s), .int (nI c)] (mkH E ro) Q = Q (some (.int (if kd t c s then ll (t.A s) else -1))) (mkH E ro) := by
  have h7 : s < 7 := by have := ok.n; omega
  refine (en_X10_kills (d := d + 1) s_E).trans ?_
  refine (x_its (w := 0) s_E h7 (by decide)).trans ?_
  rw [show 10 + 10 * s + 0 = 10 + 10 * s from rfl, hM.K s hs]
  refine (sg_X10_kills_6 (d := d + 1) s_E).trans ?_
  rw [sh31 (by omega), nI_bt hc h7]
  have hA := ok.A s hs
  have step : ∀ k x3, k < 6 → wG (d + 1) 179 (31, [.ref 101, .int (nI s), .int (nI c), .int x3, .int (nI k)], [], mkH E ro) Q = if bt (t.A s) k = 1 then Q (some (.int (nI k))) (mkH E ro) else wG (d + 1) 179 (31, [.ref 101, .int (nI s), .int (nI c), .int x3, .int (nI (k + 1))], [], mkH E ro) Q := by
    intro k x3 hk
    rw [sg_X10_kills_31 s_E, if_pos (show nI k < (6 : Int32) from @nI_lt k 6 hk (by decide))]
    refine (x_its (w := 4) s_E h7 (by decide)).trans ?_
    rw [hM.A s hs]
    refine (sg_X10_kills_44 (d := d + 1) s_E).trans ?_
    rw [sh31 (by omega), nI_bt (by omega) (by omega), ← nI_succ]
    by_cases h1 : bt (t.A s) k = 1
    · rw [h1, if_pos (show nI 1 = 1 from rfl), if_pos rfl]
    · have h3 : bt (t.A s) k = 0 := by have := @bt_le (t.A s) k; omega
      rw [h3, if_neg (by decide), if_neg (by decide)]
  have all : ∀ x3, wG (d + 1) 179 (31, [.ref 101, .int (nI s), .int (nI c), .int x3, .int 0], [], mkH E ro) Q = Q (some (.int (ll (t.A s)))) (mkH E ro) := by
    intro x3
    refine (step 0 x3 (by decide)).trans ?_
    rw [step 1 x3 (by decide), step 2 x3 (by decide), step 3 x3 (by decide), step 4 x3 (by decide), step 5 x3 (by decide), sg_X10_kills_31 s_E, if_neg (show ¬ nI (5 + 1) < (6 : Int32) from by decide)]
    simp only [q_i]
    rfl
  rw [all]
  unfold kd
  have hK := ok.K s hs
  by_cases h1 : bt c s = 1
  · rw [h1, if_neg (show ¬ nI 1 = 0 from by decide)]
    have e3 : (nI (t.K s) = 3) = (t.K s = 3) := propext (nI_eq (b := 3) (by omega) (by decide))
    have e6 : (nI (t.K s) = 6) = (t.K s = 6) := propext (nI_eq (b := 6) (by omega) (by decide))
    simp only [e3, e6]
    by_cases h3 : t.K s = 3
    · simp [h3]
    · by_cases h6 : t.K s = 6
      · simp [h6]
      · simp [h3, h6]
  · have h3 : bt c s = 0 := by have := @bt_le c s; omega
    rw [h3, if_pos (show nI 0 = 0 from rfl)]
    simp only [q_i]
    simp
end KK
section BB
variable {d : Nat} {E : pEv} {ro : Nat → Nat → Int32} {Q : Option Value → pH → Prop} {t : Th}
/-- does a scene come after one of its actors was killed -/
def br (t : Th) (c s : Nat) : Bool := decide (∃ k, k < s ∧ t.A s &&& ks t c k ≠ 0)
theorem br_i {c s : Nat} : br t c s = true ↔ ∃ k, k < s ∧ t.A s &&& ks t c k ≠ 0 := by unfold br; rw [decide_eq_true_eq]
theorem and_or0 {a b c : Nat} : a &&& (b ||| c) = 0 ↔ a &&& b = 0 ∧ a &&& c = 0 := by
  rw [Nat.and_or_distrib_left]
  exact Nat.or_eq_zero_iff
theorem x_X2_isBroken (s_E : oE E) (ok : tOK t) (hC : tC t ro) {s c : Nat} (hs : s < t.n) (hc : c < 128) : wX (d + 5) 29 [.ref 11, .int (nI s), .int (nI c)] (mkH E ro) Q = Q (some (.int (if br t c s then 1 else 0))) (mkH E ro) := by
  have hn := ok.n
  have h7 : s < 7 := by omega
  refine (en_X2_isBroken (d := d + 4) s_E).trans ?_
  have key : ∀ k i a, i + k = s → a < 64 → (t.A s &&& a = 0 ↔ ∀ j, j < i → t.A s &&& ks t c j = 0) → wG (d + 4) 29 (5, [.ref 11, .int (nI s), .int (nI c), .int (nI a), .int (nI i)], [], mkH E ro) Q = Q (some (.int (if br t c s then 1 else 0))) (mkH E ro) := by
    intro k
    induction k with
    | zero =>
      intro i a hi ha hJ
      obtain rfl : i = s := by omega
      rw [sg_X2_isBroken_5 s_E, if_neg (nI_nlt (Nat.le_refl _) (by omega))]
      refine (x_X2_at (d := d + 3) s_E oP11).trans ?_
      rw [sc_at h7]
      refine (sg_X2_isBroken_32 (d := d + 4) s_E (oS11 h7)).trans ?_
      have hA := ok.A i hs
      have h3 : t.A i &&& a < 64 := Nat.lt_of_le_of_lt Nat.and_le_right ha
      rw [hC.A i hs, ← nI_and]
      by_cases h0 : t.A i &&& a = 0
      · rw [h0, if_pos nI_0, if_neg (fun hq => (br_i.mp hq).elim (fun j hj => hj.2 (hJ.mp h0 j hj.1)))]
      · rw [if_neg (nI_ne0 (by omega) (by omega)), if_pos]
        refine br_i.mpr ?_
        refine Classical.byContradiction (fun hno => h0 (hJ.mpr (fun j hj => ?_)))
        exact Classical.byContradiction (fun h => hno ⟨j, hj, h⟩)
    | succ k ih =>
      intro i a hi ha hJ
      rw [sg_X2_isBroken_5 s_E, if_pos (nI_lt (by omega) (by omega))]
      refine (x_X2_killedBy s_E ok hC (show i < t.n from by omega) hc).trans ?_
      refine (sg_X2_isBroken_19 (d := d + 4) s_E).trans ?_
      rw [← nI_or, ← nI_succ]
      refine ih (i + 1) _ (by omega) (Nat.or_lt_two_pow (n := 6) ha ks_lt) ?_
      rw [and_or0, hJ]
      constructor
      · intro ⟨h1, h2⟩ j hj
        by_cases he : j = i
        · subst he; exact h2
        · exact h1 j (by omega)
      · intro h
        exact ⟨fun j hj => h j (by omega), h i (by omega)⟩
  exact key s 0 0 (by omega) (by decide) ⟨fun _ j hj => absurd hj (Nat.not_lt_zero _), fun _ => Nat.and_zero _⟩
theorem x_X10_isBroken (s_E : oE E) (ok : tOK t) (hM : tM t ro) {s : Nat} (hs : s < t.n) : wX (d + 5) 180 [.ref 101, .int (nI s)] (mkH E ro) Q = Q (some (.int (if br t (hp t) s then 1 else 0))) (mkH E ro) := by
  have hn := ok.n
  have h7 : s < 7 := by omega
  have hc : hp t < 128 := Nat.lt_of_lt_of_le (oc_ltk (k := t.n)) (p128 ok)
  refine (en_X10_isBroken (d := d + 4) s_E).trans ?_
  refine (x_all s_E ok hM).trans ?_
  refine (sg_X10_isBroken_4 (d := d + 4) s_E).trans ?_
  have hA := ok.A s hs
  have key : ∀ k i v, i + k = s → (∀ j, j < i → t.A s &&& ks t (hp t) j = 0) → wG (d + 4) 180 (7, [.ref 101, .int (nI s), .int (nI (hp t)), .int (nI i), v], [], mkH E ro) Q = Q (some (.int (if br t (hp t) s then 1 else 0))) (mkH E ro) := by
    intro k
    induction k with
    | zero =>
      intro i v hi hJ
      obtain rfl : i = s := by omega
      rw [sg_X10_isBroken_7 s_E, if_neg (nI_nlt (Nat.le_refl _) (by omega)), if_neg (fun hq => (br_i.mp hq).elim (fun j hj => hj.2 (hJ j hj.1)))]
    | succ k ih =>
      intro i v hi hJ
      have hin : i < t.n := by omega
      rw [sg_X10_isBroken_7 s_E, if_pos (nI_lt (by omega) (by omega))]
      refine (x_X10_kills (d := d + 2) s_E ok hM hin hc).trans ?_
      refine (sg_X10_isBroken_18 (d := d + 4) s_E).trans ?_
      rw [← nI_succ]
      have go : t.A s &&& ks t (hp t) i = 0 → ∀ v, wG (d + 4) 180 (7, [.ref 101, .int (nI s), .int (nI (hp t)), .int (nI (i + 1)), v], [], mkH E ro) Q = Q (some (.int (if br t (hp t) s then 1 else 0))) (mkH E ro) := by
        intro h v
        refine ih (i + 1) v (by omega) (fun j hj => ?_)
        by_cases he : j = i
        · subst he; exact h
        · exact hJ j (by omega)
      by_cases hk : kd t (hp t) i = true
      · have e : ks t (hp t) i = lw (t.A i) := by unfold ks; rw [if_pos hk]
        have hl := lw_ll (ok.A i hin) hA
        rw [e, hl] at go
        rw [if_pos hk]
        by_cases h1 : ll (t.A i) < 0
        · rw [if_pos h1]
          exact go (Or.inl h1) _
        · rw [if_neg h1]
          refine (x_its (w := 4) s_E h7 (by decide)).trans ?_
          rw [hM.A s hs]
          refine (sg_X10_isBroken_31 (d := d + 4) s_E).trans ?_
          by_cases h2 : (nI (t.A s) >>> (ll (t.A i) &&& 31)) &&& 1 = 1
          · rw [if_pos h2, if_pos]
            refine br_i.mpr ⟨i, by omega, fun h => ?_⟩
            rw [e, hl] at h
            exact h.elim h1 (fun h => h h2)
          · rw [if_neg h2, ← nI_succ]
            exact go (Or.inr h2) _
      · have e : ks t (hp t) i = 0 := by unfold ks; rw [if_neg hk]
        rw [if_neg hk, if_pos (by decide)]
        exact go (by rw [e]; exact Nat.and_zero _) _
  exact key s 0 _ (by omega) (fun j hj => absurd hj (Nat.not_lt_zero _))
end BB
