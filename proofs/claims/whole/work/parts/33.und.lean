section UN
variable {d : Nat} {E : pEv} {ro : Nat → Nat → Int32} {Q : Option Value → pH → Prop} {t : Th}
/-- the causes of the causes, one scene after another down to the first -/
def dn (t : Th) : Nat → Nat → Nat
  | 0, a => if bt a 0 = 1 then a ||| t.C 0 else a
  | i + 1, a => dn t i (if bt a (i + 1) = 1 then a ||| t.C (i + 1) else a)
def la (t : Th) (a : Nat) : Nat := it (fun k l => if bt a (t.o k) = 1 then k else l) t.n 0 0
def un (t : Th) (s : Nat) : Nat := la t (dn t s (1 <<< s))
theorem un_step (ok : tOK t) {i a : Nat} (h : i < t.n) (ha : a < 128) : (if bt a i = 1 then a ||| t.C i else a) < 128 := by
  have hC := ok.C i h
  have hp := p27 (show i < 7 by have := ok.n; omega)
  split
  · exact or7 ha (by omega)
  · exact ha
theorem dn_lt (ok : tOK t) : ∀ i a, i < t.n → a < 128 → dn t i a < 128 := by
  intro i
  induction i with
  | zero => intro a h ha; exact un_step ok h ha
  | succ i ih => intro a h ha; exact ih _ (by omega) (un_step ok h ha)
theorem nI_dec {i : Nat} : nI (i + 1) + (-1) = nI i := by rw [← Int32.sub_eq_add_neg, nI_pred]
theorem x_X2_understoodBy (s_E : oE E) (ok : tOK t) (hC : tC t ro) {s : Nat} (hs : s < t.n) : wX (d + 2) 36 [.ref 11, .int (nI s)] (mkH E ro) Q = Q (some (.int (nI (un t s)))) (mkH E ro) := by
  have hn := ok.n
  refine (en_X2_understoodBy (d := d + 1) s_E).trans ?_
  rw [sh31 (by omega), show (1 : Int32) = nI 1 from rfl, nI_shl (by omega)]
  have two : ∀ a, a < 128 → ∀ x3 v4, x3 < 0 → wG (d + 1) 36 (6, [.ref 11, .int (nI s), .int (nI a), .int x3, v4], [], mkH E ro) Q = Q (some (.int (nI (la t a)))) (mkH E ro) := by
    intro a ha x3 v4 h3
    rw [sg_X2_understoodBy_6 s_E, if_pos h3]
    exact loop_it (P := fun i l => wG (d + 1) 36 (41, [.ref 11, .int (nI s), .int (nI a), .int (nI l), .int (nI i)], [], mkH E ro) Q) (R := fun l => Q (some (.int (nI l))) (mkH E ro)) (I := fun _ _ => True) (n := t.n)
      (fun i l hi _ => by
        have ho := ok.o i hi
        show wG (d + 1) 36 (41, [.ref 11, .int (nI s), .int (nI a), .int (nI l), .int (nI i)], [], mkH E ro) Q = _
        rw [sg_X2_understoodBy_41 s_E, hC.n, if_pos (nI_lt hi (by omega))]
        refine (x_X4_at (d := d) (c_h0 := 7) s_E (oR rfl)).trans ?_
        rw [at_in (rK32 ok hC) hi, hC.o i hi]
        refine (sg_X2_understoodBy_60 (d := d + 1) s_E).trans ?_
        rw [sh31 (by omega), nI_bt ha (by omega), ← nI_succ]
        by_cases h1 : bt a (t.o i) = 1
        · rw [h1, if_pos (show nI 1 = 1 from rfl), if_pos rfl]
        · have h0 : bt a (t.o i) = 0 := by have := @bt_le a (t.o i); omega
          rw [h0, if_neg (by decide), if_neg (by decide)])
      (fun _ _ _ _ => trivial)
      (fun l _ => by
        show wG (d + 1) 36 (41, [.ref 11, .int (nI s), .int (nI a), .int (nI l), .int (nI t.n)], [], mkH E ro) Q = _
        rw [sg_X2_understoodBy_41 s_E, hC.n, if_neg (nI_nlt (Nat.le_refl _) (by omega))])
      t.n 0 0 (by omega) trivial
  have one : ∀ i a v4, i < t.n → a < 128 → wG (d + 1) 36 (6, [.ref 11, .int (nI s), .int (nI a), .int (nI i), v4], [], mkH E ro) Q = wG (d + 1) 36 (6, [.ref 11, .int (nI s), .int (nI (if bt a i = 1 then a ||| t.C i else a)), .int (nI i + (-1)), v4], [], mkH E ro) Q := by
    intro i a v4 hi ha
    have h7 : i < 7 := by omega
    refine (sg_X2_understoodBy_6 s_E).trans ?_
    rw [if_neg (nI_pos (by omega)), sh31 (by omega), nI_bt ha h7]
    by_cases h1 : bt a i = 1
    · rw [h1, if_pos (show nI 1 = 1 from rfl), if_pos rfl]
      refine (x_X2_at (d := d) s_E oP11).trans ?_
      rw [sc_at h7]
      refine (sg_X2_understoodBy_25 (d := d + 1) s_E (oS11 h7)).trans ?_
      rw [hC.C i hi, ← nI_or]
    · have h0 : bt a i = 0 := by have := @bt_le a i; omega
      rw [h0, if_neg (by decide), if_neg (by decide)]
  have key : ∀ i a v4, i < t.n → a < 128 → wG (d + 1) 36 (6, [.ref 11, .int (nI s), .int (nI a), .int (nI i), v4], [], mkH E ro) Q = Q (some (.int (nI (la t (dn t i a))))) (mkH E ro) := by
    intro i
    induction i with
    | zero =>
      intro a v4 hi ha
      rw [one 0 a v4 hi ha]
      exact two _ (un_step ok hi ha) _ _ (by decide)
    | succ i ih =>
      intro a v4 hi ha
      rw [one (i + 1) a v4 hi ha, nI_dec]
      exact ih _ _ (by omega) (un_step ok hi ha)
  have hlt : 1 <<< s < 128 := by
    have : ∀ s, s < 7 → 1 <<< s < 128 := by decide
    exact this s (by omega)
  exact key s (1 <<< s) _ hs hlt
theorem x_X10_understood0 (s_E : oE E) (ok : tOK t) (hM : tM t ro) {s : Nat} (hs : s < t.n) : ∀ v4, wG (d + 1) 202 (20, [.ref 101, .int (nI s), .int (nI (1 <<< s)), .int (nI s), v4], [], mkH E ro) Q = Q (some (.int (nI (un t s)))) (mkH E ro) := by
  have hn := ok.n
  have two : ∀ a, a < 128 → ∀ x3 v4, x3 < 0 → wG (d + 1) 202 (20, [.ref 101, .int (nI s), .int (nI a), .int x3, v4], [], mkH E ro) Q = Q (some (.int (nI (la t a)))) (mkH E ro) := by
    intro a ha x3 v4 h3
    rw [sg_X10_understood_20 s_E, if_pos h3]
    exact loop_it (P := fun i l => wG (d + 1) 202 (57, [.ref 101, .int (nI s), .int (nI a), .int (nI l), .int (nI i)], [], mkH E ro) Q) (R := fun l => Q (some (.int (nI l))) (mkH E ro)) (I := fun _ _ => True) (n := t.n)
      (fun i l hi _ => by
        have ho := ok.o i hi
        have oa := o_at (show i < 7 by omega)
        show wG (d + 1) 202 (57, [.ref 101, .int (nI s), .int (nI a), .int (nI l), .int (nI i)], [], mkH E ro) Q = _
        rw [sg_X10_understood_57 s_E (fun _ => ⟨oa.2, by omega⟩), hM.n, if_pos (nI_lt hi (by omega)), oa.1, hM.o i hi]
        rw [sh31 (by omega), nI_bt ha (by omega), ← nI_succ]
        by_cases h1 : bt a (t.o i) = 1
        · rw [h1, if_pos (show nI 1 = 1 from rfl), if_pos rfl]
        · have h0 : bt a (t.o i) = 0 := by have := @bt_le a (t.o i); omega
          rw [h0, if_neg (by decide), if_neg (by decide)])
      (fun _ _ _ _ => trivial)
      (fun l _ => by
        have hlt : ¬ nI t.n < ro 102 0 := by rw [hM.n]; exact nI_nlt (Nat.le_refl _) (by omega)
        refine (sg_X10_understood_57 s_E (fun h => absurd h hlt)).trans ?_
        rw [if_neg hlt])
      t.n 0 0 (by omega) trivial
  have one : ∀ i a v4, i < t.n → a < 128 → wG (d + 1) 202 (20, [.ref 101, .int (nI s), .int (nI a), .int (nI i), v4], [], mkH E ro) Q = wG (d + 1) 202 (20, [.ref 101, .int (nI s), .int (nI (if bt a i = 1 then a ||| t.C i else a)), .int (nI i + (-1)), v4], [], mkH E ro) Q := by
    intro i a v4 hi ha
    have h7 : i < 7 := by omega
    refine (sg_X10_understood_20 s_E).trans ?_
    rw [if_neg (nI_pos (by omega)), sh31 (by omega), nI_bt ha h7]
    by_cases h1 : bt a i = 1
    · rw [h1, if_pos (show nI 1 = 1 from rfl), if_pos rfl]
      refine (x_its (w := 2) s_E h7 (by decide)).trans ?_
      refine (sg_X10_understood_40 (d := d + 1) s_E).trans ?_
      rw [hM.C i hi, ← nI_or]
    · have h0 : bt a i = 0 := by have := @bt_le a i; omega
      rw [h0, if_neg (by decide), if_neg (by decide), show (0 : Int32) = nI 0 from rfl, ← nI_or, Nat.or_zero]
  have key : ∀ i a v4, i < t.n → a < 128 → wG (d + 1) 202 (20, [.ref 101, .int (nI s), .int (nI a), .int (nI i), v4], [], mkH E ro) Q = Q (some (.int (nI (la t (dn t i a))))) (mkH E ro) := by
    intro i
    induction i with
    | zero =>
      intro a v4 hi ha
      rw [one 0 a v4 hi ha]
      exact two _ (un_step ok hi ha) _ _ (by decide)
    | succ i ih =>
      intro a v4 hi ha
      rw [one (i + 1) a v4 hi ha, nI_dec]
      exact ih _ _ (by omega) (un_step ok hi ha)
  have hlt : 1 <<< s < 128 := by
    have : ∀ s, s < 7 → 1 <<< s < 128 := by decide
    exact this s (by omega)
  exact fun v4 => key s (1 <<< s) v4 hs hlt
end UN
