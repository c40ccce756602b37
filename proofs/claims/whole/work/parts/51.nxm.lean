/-! the model goes through all orders -/
section NR
variable {d : Nat} {E : pEv} {r r' : Nat → Nat → Int32} {Q : Option Value → pH → Prop} {t : Th} {X : Tx}
def p106 : Nat → Nat → Prop := fun a _ => a = 106
theorem tM_6 (hM : tM t r) (s : sE p106 r r') : tM t r' := hM.fr (funext fun k => s 102 k (by unfold p106; omega))
theorem x_nextRow (s_E : oE E) (ok : tOK t) (hM : tM t r) {f : Nat → Nat} (hr : rW t f r) : (nxf t.n f = none → ∀ Q, wX (d + 1) 205 [.ref 101] (mkH E r) Q = Q (some (.int 0)) (mkH E r)) ∧ (∀ g, nxf t.n f = some g → ∃ r', sE p106 r r' ∧ rW t g r' ∧ ∀ Q, wX (d + 1) 205 [.ref 101] (mkH E r) Q = Q (some (.int 1)) (mkH E r')) := by
  have hn := ok.n
  -- the turning round of the tail
  have rev : ∀ (f1 : Nat → Nat) (lo0 hi0 : Nat) x1 x2, hi0 < t.n → 1 ≤ lo0 → lo0 ≤ hi0 + 1 → ∀ k lo hi r x3, lo + hi = lo0 + hi0 → lo0 ≤ lo ∧ lo ≤ hi0 + 1 → hi ≤ lo + k → tM t r → (∀ j, j < t.n → r 106 j = nI (if (lo0 ≤ j ∧ j < lo) ∨ (hi < j ∧ j ≤ hi0) then f1 (lo0 + hi0 - j) else f1 j)) → ∃ r', sE p106 r r' ∧ (∀ j, j < t.n → r' 106 j = nI (rvf f1 lo0 hi0 j)) ∧ ∀ Q, wG d 205 (113, [.ref 101, .int x1, .int x2, .int x3, .int (nI lo), .int (nI hi)], [], mkH E r) Q = Q (some (.int 1)) (mkH E r') := by
    intro f1 lo0 hi0 x1 x2 hhi hlo1 hlo k
    induction k with
    | zero =>
      intro lo hi r x3 h1 h2 h3 hM hj
      have hlt : ¬ nI lo < nI hi := nI_nlt (by omega) (by omega)
      refine ⟨r, sE_rf, fun j hjn => ?_, fun Q => ?_⟩
      · rw [hj j hjn]
        unfold rvf
        by_cases q : lo0 ≤ j ∧ j ≤ hi0
        · rw [if_pos q]
          by_cases q2 : (lo0 ≤ j ∧ j < lo) ∨ (hi < j ∧ j ≤ hi0)
          · rw [if_pos q2]
          · rw [if_neg q2, show lo0 + hi0 - j = j by omega]
        · rw [if_neg q, if_neg (by omega)]
      · refine (sg_X10_nextRow_113 s_E (fun h => absurd h hlt) (fun h => absurd h hlt)).trans ?_
        rw [if_neg hlt]
    | succ k ih =>
      intro lo hi r x3 h1 h2 h3 hM hj
      by_cases q : lo < hi
      · have hlon : lo < 7 := by omega
        have hhin : hi < 7 := by omega
        obtain ⟨hi1, rfl⟩ : ∃ h, hi = h + 1 := ⟨hi - 1, by omega⟩
        have s1 : sE p106 r (uI (uI r 106 lo (r 106 (hi1 + 1))) 106 (hi1 + 1) (r 106 lo)) := sE_tr (sE_u rfl) (sE_u rfl)
        obtain ⟨r2, s2, j2, e2⟩ := ih (lo + 1) hi1 (uI (uI r 106 lo (r 106 (hi1 + 1))) 106 (hi1 + 1) (r 106 lo)) (r 106 lo) (by omega) (by omega) (by omega) (tM_6 hM s1) (fun j hjn => by
          rw [uI_at, uI_at]
          by_cases q1 : j = hi1 + 1
          · rw [if_pos ⟨rfl, q1⟩, hj lo (by omega), if_neg (by omega), if_pos (by omega), q1, show lo0 + hi0 - (hi1 + 1) = lo by omega]
          · rw [if_neg (by omega)]
            by_cases q2 : j = lo
            · rw [if_pos ⟨rfl, q2⟩, hj (hi1 + 1) (by omega), if_neg (by omega), if_pos (by omega), q2, show lo0 + hi0 - lo = hi1 + 1 by omega]
            · rw [if_neg (by omega), hj j hjn]
              by_cases q3 : (lo0 ≤ j ∧ j < lo) ∨ (hi1 + 1 < j ∧ j ≤ hi0)
              · rw [if_pos q3, if_pos (by omega)]
              · rw [if_neg q3, if_neg (by omega)])
        refine ⟨r2, sE_tr s1 s2, j2, fun Q => ?_⟩
        refine (sg_X10_nextRow_113 s_E (fun _ => ix_n hlon (by decide)) (fun _ => ix_n hhin (by decide))).trans ?_
        rw [if_pos (nI_lt q (by omega)), nI_clamp (by omega), nI_clamp (by omega), ← nI_succ, nI_dec]
        exact e2 Q
      · exact ih lo hi r x3 h1 h2 (by omega) hM hj
  -- the last that is more
  have two : ∀ i, i + 1 < t.n → f i ≤ f (i + 1) → ∀ a, i + 1 ≤ a → a < t.n → ∀ v3 v4 v5, ∃ r', sE p106 r r' ∧ rW t (rvf (swf f i (fJx f (f i) a)) (i + 1) (t.n - 1)) r' ∧ ∀ Q, wG d 205 (51, [.ref 101, .int (nI i), .int (nI a), v3, v4, v5], [], mkH E r) Q = Q (some (.int 1)) (mkH E r') := by
    intro i hi hfi a
    induction a with
    | zero => intro h; omega
    | succ a ih =>
      intro ha1 ha2 v3 v4 v5
      have hra := hr (a + 1) ha2
      have hri := hr i (by omega)
      have hixa := ix_n (show a + 1 < 7 by omega) (by decide)
      have hixi := ix_n (show i < 7 by omega) (by decide)
      have e : (nI (f (a + 1)) < nI (f i)) = (f (a + 1) < f i) := propext (nI_ltI (by omega) (by omega))
      by_cases q : f (a + 1) < f i
      · have hne : i + 1 ≤ a := by
          rcases Nat.lt_or_ge a (i + 1) with h | h
          · have : a = i := by omega
            subst this
            omega
          · exact h
        obtain ⟨r', s1, w1, e1⟩ := ih hne (by omega) v3 v4 v5
        have ej : fJx f (f i) (a + 1) = fJx f (f i) a := if_pos q
        rw [ej]
        refine ⟨r', s1, w1, fun Q => ?_⟩
        refine (sg_X10_nextRow_51 s_E hixa hixi (fun _ => hixi) (fun _ => hixa)).trans ?_
        rw [nI_clamp (by omega), nI_clamp (by omega), hra.1, hri.1]
        simp only [e]
        rw [if_pos q, nI_dec]
        exact e1 Q
      · have ej : fJx f (f i) (a + 1) = a + 1 := if_neg q
        rw [ej]
        have s1 : sE p106 r (uI (uI r 106 i (nI (f (a + 1)))) 106 (a + 1) (nI (f i))) := sE_tr (sE_u rfl) (sE_u rfl)
        have hM1 := tM_6 hM s1
        obtain ⟨r2, s2, j2, e2⟩ := rev (swf f i (a + 1)) (i + 1) (t.n - 1) (nI i) (nI (a + 1)) (by omega) (by omega) (by omega) t.n (i + 1) (t.n - 1) _ (nI (f i)) rfl (by omega) (by omega) hM1 (fun j hjn => by
          rw [if_neg (by omega), uI_at, uI_at]
          unfold swf
          by_cases q1 : j = a + 1
          · rw [if_pos ⟨rfl, q1⟩, if_pos q1]
          · rw [if_neg (by omega), if_neg q1]
            by_cases q2 : j = i
            · rw [if_pos ⟨rfl, q2⟩, if_pos q2]
            · rw [if_neg (by omega), if_neg q2, (hr j hjn).1])
        refine ⟨r2, sE_tr s1 s2, fun k hk => ⟨j2 k hk, ?_⟩, fun Q => ?_⟩
        · have sw : ∀ k, k < t.n → swf f i (a + 1) k < t.n := by
            intro k hk
            unfold swf
            split
            · exact hri.2
            · split
              · exact hra.2
              · exact (hr k hk).2
          unfold rvf
          split
          · exact sw _ (by omega)
          · exact sw _ hk
        · refine (sg_X10_nextRow_51 s_E hixa hixi (fun _ => hixi) (fun _ => hixa)).trans ?_
          rw [nI_clamp (by omega), nI_clamp (by omega), hra.1, hri.1]
          simp only [e]
          rw [if_neg q]
          have hm : (uI (uI r 106 i (nI (f (a + 1)))) 106 (a + 1) (nI (f i))) 102 0 - 1 = nI (t.n - 1) := by
            rw [hM1.n]
            obtain ⟨m, hm⟩ : ∃ m, t.n = m + 1 := ⟨t.n - 1, by omega⟩
            rw [hm, nI_pred]
            rfl
          rw [hm, ← nI_succ]
          exact e2 Q
  -- the first that is less than the one behind it
  have one : ∀ a, a < t.n → ∀ v2 v3 v4 v5, (fIx f a = none → ∀ Q, wG d 205 (9, [.ref 101, .int (nI a - 1), v2, v3, v4, v5], [], mkH E r) Q = Q (some (.int 0)) (mkH E r)) ∧ (∀ i, fIx f a = some i → i + 1 < t.n ∧ f i ≤ f (i + 1) ∧ ∀ Q, wG d 205 (9, [.ref 101, .int (nI a - 1), v2, v3, v4, v5], [], mkH E r) Q = wG d 205 (51, [.ref 101, .int (nI i), .int (nI (t.n - 1)), v3, v4, v5], [], mkH E r) Q) := by
    intro a
    induction a with
    | zero =>
      intro _ v2 v3 v4 v5
      refine ⟨fun _ Q => ?_, fun i h => by cases h⟩
      have hneg : nI 0 - 1 < 0 := by decide
      refine (sg_X10_nextRow_9 s_E (fun h => absurd hneg h) (fun h => absurd hneg h)).trans ?_
      rw [if_pos hneg, if_pos hneg]
    | succ a ih =>
      intro ha v2 v3 v4 v5
      have hra := hr a (by omega)
      have hrb := hr (a + 1) ha
      have hix := ix_n (show a < 7 by omega) (by decide)
      have hix1 : ¬ (nI a + 1) < 0 ∧ (nI a + 1).toNatClampNeg < 7 := by rw [← nI_succ]; exact ix_n (show a + 1 < 7 by omega) (by decide)
      have e : (nI (f (a + 1)) < nI (f a)) = (f (a + 1) < f a) := propext (nI_ltI (by omega) (by omega))
      have hp : ¬ nI a < 0 := nI_pos (by omega)
      have st : ∀ Q, wG d 205 (9, [.ref 101, .int (nI (a + 1) - 1), v2, v3, v4, v5], [], mkH E r) Q = if f (a + 1) < f a then wG d 205 (9, [.ref 101, .int (nI a - 1), v2, v3, v4, v5], [], mkH E r) Q else wG d 205 (51, [.ref 101, .int (nI a), .int (nI (t.n - 1)), v3, v4, v5], [], mkH E r) Q := by
        intro Q
        rw [nI_pred]
        refine (sg_X10_nextRow_9 s_E (fun _ => hix) (fun _ => hix1)).trans ?_
        rw [if_neg hp, ← nI_succ, nI_clamp (by omega), nI_clamp (by omega), hra.1, hrb.1]
        simp only [e]
        rw [if_neg hp, hM.n, ← Int32.sub_eq_add_neg]
        obtain ⟨m, hm⟩ : ∃ m, t.n = m + 1 := ⟨t.n - 1, by omega⟩
        rw [hm, nI_pred]
        rfl
      by_cases q : f (a + 1) < f a
      · have ei : fIx f (a + 1) = fIx f a := if_pos q
        rw [ei]
        obtain ⟨g1, g2⟩ := ih (by omega) v2 v3 v4 v5
        refine ⟨fun h Q => ?_, fun i h => ?_⟩
        · rw [st, if_pos q]; exact g1 h Q
        · obtain ⟨k1, k2, k3⟩ := g2 i h
          exact ⟨k1, k2, fun Q => by rw [st, if_pos q]; exact k3 Q⟩
      · have ei : fIx f (a + 1) = some a := if_neg q
        rw [ei]
        refine ⟨fun h => (by cases h), fun i h => ?_⟩
        cases h
        exact ⟨ha, by omega, fun Q => by rw [st, if_neg q]⟩
  have start : ∀ Q, wX (d + 1) 205 [.ref 101] (mkH E r) Q = if t.n = 0 then Q (some (.int 0)) (mkH E r) else wG d 205 (9, [.ref 101, .int (nI (t.n - 1) - 1), .retAddr 0, .retAddr 0, .retAddr 0, .retAddr 0], [], mkH E r) Q := by
    intro Q
    refine (en_X10_nextRow s_E).trans ?_
    rw [hM.n]
    by_cases h0 : t.n = 0
    · rw [if_pos h0, h0]
      have hneg : nI 0 - 2 < 0 := by decide
      refine (sg_X10_nextRow_9 s_E (fun h => absurd hneg h) (fun h => absurd hneg h)).trans ?_
      rw [if_pos hneg, if_pos hneg]
    · rw [if_neg h0]
      obtain ⟨m, hm⟩ : ∃ m, t.n = m + 1 := ⟨t.n - 1, by omega⟩
      have e : nI t.n - 2 = nI (t.n - 1) - 1 := by
        have : ∀ m, m < 8 → nI (m + 1) - 2 = nI m - 1 := by decide
        rw [hm]
        exact this m (by omega)
      rw [e]
  unfold nxf
  by_cases h0 : t.n = 0
  · have e0 : fIx f (t.n - 1) = none := by rw [h0]; rfl
    rw [e0]
    refine ⟨fun _ Q => by rw [start, if_pos h0], fun g h => (by cases h)⟩
  · obtain ⟨g1, g2⟩ := one (t.n - 1) (by omega) (.retAddr 0) (.retAddr 0) (.retAddr 0) (.retAddr 0)
    cases hf : fIx f (t.n - 1) with
    | none =>
      refine ⟨fun _ Q => by rw [start, if_neg h0]; exact g1 hf Q, fun g h => (by cases h)⟩
    | some i =>
      obtain ⟨k1, k2, k3⟩ := g2 i hf
      obtain ⟨r', s1, w1, e1⟩ := two i k1 k2 (t.n - 1) (by omega) (by omega) (.retAddr 0) (.retAddr 0) (.retAddr 0)
      refine ⟨fun h => (by cases h), fun g h => ?_⟩
      cases h
      exact ⟨r', s1, w1, fun Q => by rw [start, if_neg h0, k3]; exact e1 Q⟩
end NR
