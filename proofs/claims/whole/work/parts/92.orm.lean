section ORM
variable {d : Nat} {E : pEv} {r r' r1 r2 rm rm' : Nat → Nat → Int32} {t t' : Th} {X : Tx} {Q : Option Value → pH → Prop}
theorem wh_M (s_E : oE E) (ok : tOK t) (hM : tM t r) {s z : Nat} (hs : s < 4) (hz : z ≤ 40) (h113 : r 113 s = nI z) {q : Nat → Int32} (hq : ∀ k, k < z → r 114 (40 * s + k) = q k) : ∃ b : Int32, (b = 1 ∧ whO t.n z q ∨ b = 0 ∧ ¬ whO t.n z q) ∧ ∀ Q, wX (d + 5) 237 [.ref 101, .int (nI s)] (mkH E r) Q = Q (some (.int b)) (mkH E r) := by
  have hn := ok.n
  have p7 : 2 ^ t.n ≤ 2 ^ 7 := Nat.pow_le_pow_right (by decide) hn
  have xs : ¬ nI s < 0 ∧ (nI s).toNatClampNeg < 4 := ix_n hs (by decide)
  have cs : (nI s).toNatClampNeg = s := nI_clamp (by omega)
  have nb0 : narrow .boolean (.int 0) = .int 0 := by rfl
  have nb1 : narrow .boolean (.int 1) = .int 1 := by rfl
  -- no more
  have stop : ∀ i, i ≤ z → ∀ (g : Int32) (v5 : Value) Q, wG (d + 4) 237 (26, [.ref 101, .int (nI s), .int g, .int 0, .int (nI i), v5], [], mkH E r) Q = Q (some (.int 0)) (mkH E r) := fun i hi g v5 Q => by
    refine (sg_X10_areScenes_26 (d := d + 4) s_E xs (fun _ _ => nb0) (fun _ w => absurd rfl w) (fun _ => nb0)).trans ?_
    rw [cs, h113]
    by_cases c : nI i < nI z
    · rw [if_pos c, if_pos rfl]
    · rw [if_neg c]
  have lp : z = t.n → ∀ m i, i + m = z → (∀ k, k < i → ∃ v, v < t.n ∧ q k = nI v) → NWo (fun k => (q k).toNatClampNeg) i → ∃ b : Int32, (b = 1 ∧ whO t.n z q ∨ b = 0 ∧ ¬ whO t.n z q) ∧ ∀ (v5 : Value) Q, wG (d + 4) 237 (26, [.ref 101, .int (nI s), .int (nI (gWo (fun k => (q k).toNatClampNeg) i)), .int 1, .int (nI i), v5], [], mkH E r) Q = Q (some (.int b)) (mkH E r) := by
    intro hzn m
    induction m with
    | zero =>
      intro i hi h hw
      obtain rfl : i = z := by omega
      refine ⟨1, Or.inl ⟨rfl, hzn, h, hw⟩, fun v5 Q => ?_⟩
      refine (sg_X10_areScenes_26 (d := d + 4) s_E xs (fun _ _ => nb1) (fun w _ => ?_) (fun _ => nb1)).trans ?_
      · rw [cs, h113] at w
        exact absurd w (nI_nlt (Nat.le_refl _) (by omega))
      · rw [cs, h113, if_neg (nI_nlt (Nat.le_refl _) (by omega))]
    | succ m ih =>
      intro i hi h hw
      obtain ⟨x1, x2⟩ := ix40 s hs i (by omega)
      have hf : ∀ k, k < i → (q k).toNatClampNeg < t.n := fun k hk => by
        obtain ⟨v, hv, e⟩ := h k hk
        rw [e, nI_clamp (by omega)]; exact hv
      have hg := (gWo_A (f := fun k => (q k).toNatClampNeg) hn i hf).1
      have go : ∀ (v5 : Value) Q, wG (d + 4) 237 (26, [.ref 101, .int (nI s), .int (nI (gWo (fun k => (q k).toNatClampNeg) i)), .int 1, .int (nI i), v5], [], mkH E r) Q = wG (d + 4) 237 (61, [.ref 101, .int (nI s), .int (nI (gWo (fun k => (q k).toNatClampNeg) i)), .int 1, .int (nI i), .int (q i)], [.int (gS t (q i))], mkH E r) Q := fun v5 Q => by
        refine (sg_X10_areScenes_26 (d := d + 4) s_E xs (fun _ _ => nb1) (fun _ _ => ⟨x2, by omega⟩) (fun _ => nb1)).trans ?_
        rw [cs, h113, if_pos (nI_lt (by omega) (by omega)), if_neg (by decide), x1, hq i (by omega)]
        refine (x_X10_isScene (d := d + 2) s_E).trans ?_
        rw [gS_M hM]
        rfl
      rcases gS_s ok (q i) with hx | ⟨v, hv, e, hx⟩
      · refine ⟨0, Or.inr ⟨rfl, fun w => ?_⟩, fun v5 Q => ?_⟩
        · obtain ⟨v, hv, e⟩ := w.2.1 i (by omega)
          rcases gS_s ok (nI v) with _ | ⟨_, _, _, hx2⟩
          · rename_i hx3
            have := wi_n (x := nI v) (m := t.n - 1) (by omega)
            obtain ⟨n', hn'⟩ : ∃ n', t.n = n' + 1 := ⟨t.n - 1, by omega⟩
            unfold gS at hx3
            rw [hn', nI_pred] at hx3
            rcases wi_n (x := nI v) (m := n') (by omega) with ⟨y1, _⟩ | ⟨_, y2⟩
            · rw [y1] at hx3; exact absurd hx3 (by decide)
            · exact y2 ⟨v, by omega, rfl⟩
          · rw [e, hx2] at hx; exact absurd hx (by decide)
        · rw [go, hx]
          refine (sg_X10_areScenes_61 (d := d + 4) s_E).trans ?_
          rw [if_pos rfl, ← nI_succ]
          exact stop (i + 1) (by omega) _ _ Q
      · have fv : (q i).toNatClampNeg = v := by rw [e, nI_clamp (by omega)]
        have hbt : (nI (gWo (fun k => (q k).toNatClampNeg) i) >>> (nI v &&& 31)) &&& 1 = nI (bt (gWo (fun k => (q k).toNatClampNeg) i) v) := by
          rw [sh31 (by omega), nI_bt (by omega) (by omega)]
        have hb1 := @bt_le (gWo (fun k => (q k).toNatClampNeg) i) v
        by_cases c : bt (gWo (fun k => (q k).toNatClampNeg) i) v = 0
        · obtain ⟨b, g1, g2⟩ := ih (i + 1) (by omega) (fun k hk => by
            by_cases qk : k = i
            · rw [qk]; exact ⟨v, hv, e⟩
            · exact h k (by omega)) (fun k hk => by
            by_cases qk : k = i
            · rw [qk]
              show bt _ (q i).toNatClampNeg = 0
              rw [fv]; exact c
            · exact hw k (by omega))
          refine ⟨b, g1, fun v5 Q => ?_⟩
          rw [go, hx, e]
          refine (sg_X10_areScenes_61 (d := d + 4) s_E).trans ?_
          rw [if_neg (by decide), hbt, c, if_pos (show nI 0 = 0 from rfl), sh31 (by omega), show (1 : Int32) <<< nI v = nI (1 <<< v) from nI_shl (a := 1) (by omega), ← nI_or, Nat.one_shiftLeft, ← nI_succ]
          have eg : gWo (fun k => (q k).toNatClampNeg) (i + 1) = gWo (fun k => (q k).toNatClampNeg) i ||| 2 ^ v := by
            show _ ||| 2 ^ (q i).toNatClampNeg = _
            rw [fv]
          have := g2 (.int (nI v)) Q
          rw [eg] at this
          exact this
        · refine ⟨0, Or.inr ⟨rfl, fun w => ?_⟩, fun v5 Q => ?_⟩
          · have := w.2.2 i (by omega)
            have this : bt (gWo (fun k => (q k).toNatClampNeg) i) (q i).toNatClampNeg = 0 := this
            rw [fv] at this
            exact c this
          · rw [go, hx, e]
            refine (sg_X10_areScenes_61 (d := d + 4) s_E).trans ?_
            have nz : ¬ nI (bt (gWo (fun k => (q k).toNatClampNeg) i) v) = 0 := fun w => c ((nI_eq (b := 0) (by omega) (by decide)).mp w)
            rw [if_neg (by decide), hbt, if_neg nz, ← nI_succ]
            exact stop (i + 1) (by omega) _ _ Q
  by_cases hzn : z = t.n
  · obtain ⟨b, g1, g2⟩ := lp hzn z 0 (by omega) (fun k hk => absurd hk (by omega)) (fun k hk => absurd hk (by omega))
    refine ⟨b, g1, fun Q => ?_⟩
    refine (en_X10_areScenes (d := d + 4) s_E xs).trans ?_
    rw [cs, h113, hM.n, if_pos (congrArg nI hzn)]
    exact g2 _ Q
  · refine ⟨0, Or.inr ⟨rfl, fun w => hzn w.1⟩, fun Q => ?_⟩
    refine (en_X10_areScenes (d := d + 4) s_E xs).trans ?_
    rw [cs, h113, hM.n, if_neg (fun w => hzn ((nI_eq (by omega) (by omega)).mp w))]
    exact stop 0 (by omega) _ _ Q
end ORM
