/-! voices of the model -/
def mcs (s m o : Nat) (r : Nat → Nat → Int32) : Prop := r 101 20 = nI s ∧ r 102 (10 + 10 * s) = nI o ∧ r 102 (10 + 10 * s + 1) = nI m
def vmk (E : pEv) (s m o D me k : Nat) (x : Int32) (y : Int32 × List Nat) : Prop := ∀ d r c, mcs s m o r → r 101 19 = nI c → c + y.2.length ≤ 40 → ∀ Q, wX (d + D) me [.ref 101, .int (nI k), .int x] (mkH E r) Q = Q (some (.int y.1)) (mkH E (trm r c y.2))
def abT (k : Nat) : Nat := if k < 4 then 0 else k - 3
section VM
variable {d : Nat} {E : pEv} {ro r r' : Nat → Nat → Int32} {Q : Option Value → pH → Prop} {s m o : Nat} {x : Int32}
theorem vm_up {D D' me k : Nat} {y : Int32 × List Nat} (h : vmk E s m o D me k x y) (hD : D ≤ D') : vmk E s m o D' me k x y := fun d r c h1 h2 h3 Q => by
  have := h (d + (D' - D)) r c h1 h2 h3 Q
  rw [show d + (D' - D) + D = d + D' by omega] at this
  exact this
theorem mcs_s (h : mcs s m o r) (q : sE tmP r r') : mcs s m o r' := by
  refine ⟨?_, ?_, ?_⟩
  · rw [q _ _ (by unfold tmP; omega)]; exact h.1
  · rw [q _ _ (by unfold tmP; omega)]; exact h.2.1
  · rw [q _ _ (by unfold tmP; omega)]; exact h.2.2
theorem x_ab (s_E : oE E) {k : Nat} (hk : k < 7) : wX (d + 1) 175 [.int (nI k)] (mkH E r) Q = Q (some (.int (nI (abT k)))) (mkH E r) := by
  refine (x_X10_above s_E).trans ?_
  have : ∀ k, k < 7 → f_X10_above (nI k) = nI (abT k) := by decide
  rw [this k hk]
theorem x_ran (s_E : oE E) {b c : Nat} (h : r 101 19 = nI c) (hc : c < 40) : wX (d + 1) 225 [.ref 101, .int (nI b)] (mkH E r) Q = Q none (mkH E (trm r c [b])) := by
  have hix := ix_n hc (show 40 < 1000 by decide)
  refine (x_X10_ran s_E (fun _ => by rw [h]; exact hix)).trans ?_
  unfold g_X10_ran
  rw [h, if_pos (show nI c < (40 : Int32) from @nI_lt c 40 hc (by decide)), nI_clamp (by omega), uI_at, if_neg (by omega), h, ← nI_succ]
  rfl
theorem x_ow (s_E : oE E) (hs : s < 7) (h : mcs s m o r) : wX (d + 2) 226 [.ref 101] (mkH E r) Q = Q (some (.int (nI o))) (mkH E r) := by
  have h0 := its_at (s := s) (w := 0) hs (by decide)
  refine (x_X10_own (d := d) s_E ?_).trans ?_
  · rw [h.1, show (0 : Int32) = nI 0 from rfl]
    exact ⟨h0.2, by omega⟩
  · unfold f_X10_own f_X10_its
    rw [h.1, show (0 : Int32) = nI 0 from rfl, h0.1, show 10 + 10 * s + 0 = 10 + 10 * s from rfl, h.2.1]
theorem vm_O (s_E : oE E) {k : Nat} (hk : k < 7) : vmk E s m o 4 227 k x (voO s k x) := by
  have l0 : vmk E s m o 2 227 0 x (x + nI s, [10]) := by
    intro d r c h1 h2 h3 Q
    have h3 : c + 1 ≤ 40 := h3
    refine (en_X10_opensBy (d := d + 1) s_E).trans ?_
    rw [if_pos (show nI 0 = 0 from rfl)]
    refine (x_ran (d := d) (b := 10) s_E h2 (by omega)).trans ?_
    refine (sg_X10_opensBy_34 (d := d + 1) s_E).trans ?_
    rw [trm_s [10] r c 101 20 (by unfold tmP; omega), h1.1]
  have l2 : vmk E s m o 3 227 2 x ((x + nI s) * 3, [30, 10]) := by
    intro d r c h1 h2 h3 Q
    have h3 : c + 2 ≤ 40 := h3
    refine (en_X10_opensBy (d := d + 2) s_E).trans ?_
    rw [if_neg (show ¬ nI 2 = 0 from by decide), if_pos (show nI 2 = 2 from rfl)]
    refine (x_ran (d := d + 1) (b := 30) s_E h2 (by omega)).trans ?_
    refine (sg_X10_opensBy_47 (d := d + 2) s_E).trans ?_
    refine (x_ab (d := d + 1) (k := 2) s_E (by decide)).trans ?_
    refine (sg_X10_opensBy_52 (d := d + 2) s_E).trans ?_
    refine (l0 d (trm r c [30]) (c + 1) (mcs_s h1 (trm_s _ _ _)) (trm_n [30] r c h2) (by show c + 1 + 1 ≤ 40; omega) _).trans ?_
    exact sg_X10_opensBy_56 (d := d + 2) s_E
  have st : ∀ D k y, k < 7 → ¬ k = 0 → ¬ k = 2 → vmk E s m o (D + 1) 227 (abT k) x y → vmk E s m o (D + 2) 227 k x y := by
    intro D k y hk h0 h2 h d r c g1 g2 g3 Q
    refine (en_X10_opensBy (d := d + D + 1) s_E).trans ?_
    rw [if_neg (nI_ne0 (by omega) (by omega)), if_neg (show ¬ nI k = 2 from fun q => h2 ((nI_eq (b := 2) (by omega) (by decide)).mp q))]
    refine (x_ab (d := d + D) (k := k) s_E hk).trans ?_
    refine (sg_X10_opensBy_64 (d := d + D + 1) s_E).trans ?_
    refine (h d r c g1 g2 g3 _).trans ?_
    exact sg_X10_opensBy_68 (d := d + D + 1) s_E
  have hk' : k = 0 ∨ k = 1 ∨ k = 2 ∨ k = 3 ∨ k = 4 ∨ k = 5 ∨ k = 6 := by omega
  have l1 : vmk E s m o 3 227 1 x (x + nI s, [10]) := st 1 1 _ (by decide) (by decide) (by decide) l0
  have l3 : vmk E s m o 3 227 3 x (x + nI s, [10]) := st 1 3 _ (by decide) (by decide) (by decide) l0
  rcases hk' with rfl | rfl | rfl | rfl | rfl | rfl | rfl
  · exact vm_up l0 (by decide)
  · exact vm_up l1 (by decide)
  · exact vm_up l2 (by decide)
  · exact vm_up l3 (by decide)
  · exact st 2 4 _ (by decide) (by decide) (by decide) l1
  · exact st 2 5 _ (by decide) (by decide) (by decide) l2
  · exact st 2 6 _ (by decide) (by decide) (by decide) l3
theorem vm_C (s_E : oE E) (hs : s < 7) {k : Nat} (hk : k < 7) : vmk E s m o 4 229 k x (voC s m k x) := by
  have l0 : vmk E s m o 2 229 0 x (x - nI m, [12]) := by
    intro d r c h1 h2 h3 Q
    have h3 : c + 1 ≤ 40 := h3
    have hm := mcs_s h1 (trm_s [12] r c)
    refine (en_X10_closesBy (d := d + 1) s_E).trans ?_
    rw [if_pos (show nI 0 = 0 from rfl)]
    refine (x_ran (d := d) (b := 12) s_E h2 (by omega)).trans ?_
    refine (sg_X10_closesBy_42 (d := d + 1) s_E).trans ?_
    rw [hm.1]
    refine (x_its (w := 1) s_E hs (by decide)).trans ?_
    rw [hm.2.2]
    exact sg_X10_closesBy_52 (d := d + 1) s_E
  have l3 : vmk E s m o 3 229 3 x (-(x - nI m), [40, 12]) := by
    intro d r c h1 h2 h3 Q
    have h3 : c + 2 ≤ 40 := h3
    refine (en_X10_closesBy (d := d + 2) s_E).trans ?_
    rw [if_neg (show ¬ nI 3 = 0 from by decide), if_pos (show nI 3 = 3 from rfl)]
    refine (x_ran (d := d + 1) (b := 40) s_E h2 (by omega)).trans ?_
    refine (sg_X10_closesBy_60 (d := d + 2) s_E).trans ?_
    refine (x_ab (d := d + 1) (k := 3) s_E (by decide)).trans ?_
    refine (sg_X10_closesBy_65 (d := d + 2) s_E).trans ?_
    refine (l0 d (trm r c [40]) (c + 1) (mcs_s h1 (trm_s _ _ _)) (trm_n [40] r c h2) (by show c + 1 + 1 ≤ 40; omega) _).trans ?_
    exact sg_X10_closesBy_69 (d := d + 2) s_E
  have l6 : vmk E s m o 4 229 6 x ((-(x - nI m)) ^^^ nI s, [70, 40, 12]) := by
    intro d r c h1 h2 h3 Q
    have h3 : c + 3 ≤ 40 := h3
    refine (en_X10_closesBy (d := d + 3) s_E).trans ?_
    rw [if_neg (show ¬ nI 6 = 0 from by decide), if_neg (show ¬ nI 6 = 3 from by decide), if_pos (show nI 6 = 6 from rfl)]
    refine (x_ran (d := d + 2) (b := 70) s_E h2 (by omega)).trans ?_
    refine (sg_X10_closesBy_77 (d := d + 3) s_E).trans ?_
    refine (x_ab (d := d + 2) (k := 6) s_E (by decide)).trans ?_
    refine (sg_X10_closesBy_83 (d := d + 3) s_E).trans ?_
    refine (l3 d (trm r c [70]) (c + 1) (mcs_s h1 (trm_s _ _ _)) (trm_n [70] r c h2) (by show c + 1 + 2 ≤ 40; omega) _).trans ?_
    refine (sg_X10_closesBy_87 (d := d + 3) s_E).trans ?_
    rw [trm_s [40, 12] (trm r c [70]) (c + 1) 101 20 (by unfold tmP; omega), trm_s [70] r c 101 20 (by unfold tmP; omega), h1.1]
    rfl
  have st : ∀ D k y, k < 7 → ¬ k = 0 → ¬ k = 3 → ¬ k = 6 → vmk E s m o (D + 1) 229 (abT k) x y → vmk E s m o (D + 2) 229 k x y := by
    intro D k y hk h0 h3 h6 h d r c g1 g2 g3 Q
    refine (en_X10_closesBy (d := d + D + 1) s_E).trans ?_
    rw [if_neg (nI_ne0 (by omega) (by omega)), if_neg (show ¬ nI k = 3 from fun q => h3 ((nI_eq (b := 3) (by omega) (by decide)).mp q)), if_neg (show ¬ nI k = 6 from fun q => h6 ((nI_eq (b := 6) (by omega) (by decide)).mp q))]
    refine (x_ab (d := d + D) (k := k) s_E hk).trans ?_
    refine (sg_X10_closesBy_98 (d := d + D + 1) s_E).trans ?_
    refine (h d r c g1 g2 g3 _).trans ?_
    exact sg_X10_closesBy_102 (d := d + D + 1) s_E
  have hk' : k = 0 ∨ k = 1 ∨ k = 2 ∨ k = 3 ∨ k = 4 ∨ k = 5 ∨ k = 6 := by omega
  have l1 : vmk E s m o 3 229 1 x (x - nI m, [12]) := st 1 1 _ (by decide) (by decide) (by decide) (by decide) l0
  have l2 : vmk E s m o 3 229 2 x (x - nI m, [12]) := st 1 2 _ (by decide) (by decide) (by decide) (by decide) l0
  rcases hk' with rfl | rfl | rfl | rfl | rfl | rfl | rfl
  · exact vm_up l0 (by decide)
  · exact vm_up l1 (by decide)
  · exact vm_up l2 (by decide)
  · exact vm_up l3 (by decide)
  · exact st 2 4 _ (by decide) (by decide) (by decide) (by decide) l1
  · exact st 2 5 _ (by decide) (by decide) (by decide) (by decide) l2
  · exact l6
theorem vm_P0 (s_E : oE E) (hs : s < 7) (ho : o < 7) : vmk E s m o 5 228 0 x (voP0 s o x) := by
  intro d r c h1 h2 h3 Q
  have h3 : c + ((voO s o x).2.length + 1) ≤ 40 := h3
  refine (en_X10_playsBy (d := d + 4) s_E).trans ?_
  rw [if_pos (show nI 0 = 0 from rfl)]
  refine (x_ran (d := d + 3) (b := 11) s_E h2 (by omega)).trans ?_
  refine (sg_X10_playsBy_42 (d := d + 4) s_E).trans ?_
  refine (x_ow (d := d + 2) s_E hs (mcs_s h1 (trm_s [11] r c))).trans ?_
  refine (sg_X10_playsBy_47 (d := d + 4) s_E).trans ?_
  refine (vm_O s_E ho d (trm r c [11]) (c + 1) (mcs_s h1 (trm_s _ _ _)) (trm_n [11] r c h2) (by omega) _).trans ?_
  exact sg_X10_playsBy_51 (d := d + 4) s_E
theorem vm_P1 (s_E : oE E) (hs : s < 7) (ho : o < 7) : vmk E s m o 6 228 1 x (voP1 s m o x) := by
  intro d r c h1 h2 h3 Q
  have h3 : c + (((voP0 s o x).2 ++ (voC s m o 1).2).length + 1) ≤ 40 := h3
  rw [List.length_append] at h3
  have m1 := mcs_s h1 (trm_s [20] r c)
  have n1 : (trm r c [20]) 101 19 = nI (c + 1) := trm_n [20] r c h2
  have m2 := mcs_s m1 (trm_s (voP0 s o x).2 (trm r c [20]) (c + 1))
  have n2 := trm_n (voP0 s o x).2 (trm r c [20]) (c + 1) n1
  refine (en_X10_playsBy (d := d + 5) s_E).trans ?_
  rw [if_neg (show ¬ nI 1 = 0 from by decide), if_pos (show nI 1 = 1 from rfl)]
  refine (x_ran (d := d + 4) (b := 20) s_E h2 (by omega)).trans ?_
  refine (sg_X10_playsBy_60 (d := d + 5) s_E).trans ?_
  refine (x_ab (d := d + 4) (k := 1) s_E (by decide)).trans ?_
  refine (sg_X10_playsBy_65 (d := d + 5) s_E).trans ?_
  refine (vm_P0 s_E hs ho d (trm r c [20]) (c + 1) m1 n1 (by show c + 1 + (voP0 s o x).2.length ≤ 40; omega) _).trans ?_
  refine (sg_X10_playsBy_69 (d := d + 5) s_E).trans ?_
  refine (x_ow (d := d + 3) s_E hs m2).trans ?_
  refine (sg_X10_playsBy_76 (d := d + 5) s_E).trans ?_
  refine (vm_up (vm_C (x := 1) s_E hs ho) (show 4 ≤ 5 by decide) d _ _ m2 n2 (by omega) _).trans ?_
  refine (sg_X10_playsBy_80 (d := d + 5) s_E).trans ?_
  show _ = Q (some (.int (voP1 s m o x).1)) (mkH E (trm (trm r c [20]) (c + 1) ((voP0 s o x).2 ++ (voC s m o 1).2)))
  rw [trm_app]
  rfl
theorem vm_P (s_E : oE E) (hs : s < 7) (ho : o < 7) {k : Nat} (hk : k < 7) : vmk E s m o 8 228 k x (voP s m o k x) := by
  have st : ∀ D k y, (k = 2 ∨ k = 3 ∨ k = 5 ∨ k = 6) → vmk E s m o (D + 1) 228 (abT k) x y → vmk E s m o (D + 2) 228 k x y := by
    intro D k y hk h d r c g1 g2 g3 Q
    refine (en_X10_playsBy (d := d + D + 1) s_E).trans ?_
    have go : wX (d + D + 1) 175 [.int (nI k)] (mkH E r) (fun v h' => wG (d + D + 1) 228 (105, [.ref 101, .int (nI k), .int x, .retAddr 0], pv v [.ref 101], h') Q) = Q (some (.int y.1)) (mkH E (trm r c y.2)) := by
      refine (x_ab (d := d + D) (k := k) s_E (by omega)).trans ?_
      refine (sg_X10_playsBy_105 (d := d + D + 1) s_E).trans ?_
      refine (h d r c g1 g2 g3 _).trans ?_
      exact sg_X10_playsBy_109 (d := d + D + 1) s_E
    rcases hk with rfl | rfl | rfl | rfl
    · rw [if_neg (show ¬ nI 2 = 0 from by decide), if_neg (show ¬ nI 2 = 1 from by decide), if_pos (show nI 2 = 2 from rfl)]; exact go
    · rw [if_neg (show ¬ nI 3 = 0 from by decide), if_neg (show ¬ nI 3 = 1 from by decide), if_neg (show ¬ nI 3 = 2 from by decide), if_pos (show nI 3 = 3 from rfl)]; exact go
    · rw [if_neg (show ¬ nI 5 = 0 from by decide), if_neg (show ¬ nI 5 = 1 from by decide), if_neg (show ¬ nI 5 = 2 from by decide), if_neg (show ¬ nI 5 = 3 from by decide), if_neg (show ¬ nI 5 = 4 from by decide)]; exact go
    · rw [if_neg (show ¬ nI 6 = 0 from by decide), if_neg (show ¬ nI 6 = 1 from by decide), if_neg (show ¬ nI 6 = 2 from by decide), if_neg (show ¬ nI 6 = 3 from by decide), if_neg (show ¬ nI 6 = 4 from by decide)]; exact go
  have l0 : vmk E s m o 5 228 0 x (voP0 s o x) := vm_P0 s_E hs ho
  have l2 : vmk E s m o 6 228 2 x (voP0 s o x) := st 4 2 _ (by decide) l0
  have l3 : vmk E s m o 6 228 3 x (voP0 s o x) := st 4 3 _ (by decide) l0
  have l4 : vmk E s m o 7 228 4 x ((voP1 s m o (x + 1)).1, 50 :: (voP1 s m o (x + 1)).2) := by
    intro d r c h1 h2 h3 Q
    have h3 : c + ((voP1 s m o (x + 1)).2.length + 1) ≤ 40 := h3
    refine (en_X10_playsBy (d := d + 6) s_E).trans ?_
    rw [if_neg (show ¬ nI 4 = 0 from by decide), if_neg (show ¬ nI 4 = 1 from by decide), if_neg (show ¬ nI 4 = 2 from by decide), if_neg (show ¬ nI 4 = 3 from by decide), if_pos (show nI 4 = 4 from rfl)]
    refine (x_ran (d := d + 5) (b := 50) s_E h2 (by omega)).trans ?_
    refine (sg_X10_playsBy_88 (d := d + 6) s_E).trans ?_
    refine (x_ab (d := d + 5) (k := 4) s_E (by decide)).trans ?_
    refine (sg_X10_playsBy_93 (d := d + 6) s_E).trans ?_
    refine (vm_P1 s_E hs ho d (trm r c [50]) (c + 1) (mcs_s h1 (trm_s _ _ _)) (trm_n [50] r c h2) (by omega) _).trans ?_
    exact sg_X10_playsBy_99 (d := d + 6) s_E
  have hk' : k = 0 ∨ k = 1 ∨ k = 2 ∨ k = 3 ∨ k = 4 ∨ k = 5 ∨ k = 6 := by omega
  rcases hk' with rfl | rfl | rfl | rfl | rfl | rfl | rfl
  · exact vm_up l0 (by decide)
  · exact vm_up (vm_P1 s_E hs ho) (by decide)
  · exact vm_up l2 (by decide)
  · exact vm_up l3 (by decide)
  · exact vm_up l4 (by decide)
  · exact vm_up (st 5 5 _ (by decide) l2) (by decide)
  · exact vm_up (st 5 6 _ (by decide) l3) (by decide)
theorem vm_T0 (s_E : oE E) (hs : s < 7) (ho : o < 7) : vmk E s m o 9 230 0 x (voT0 s m o x) := by
  intro d r c h1 h2 h3 Q
  have h3 : c + (((voP s m o o x).2 ++ (voC s m o x).2).length + 1) ≤ 40 := h3
  rw [List.length_append] at h3
  have m1 := mcs_s h1 (trm_s [13] r c)
  have n1 : (trm r c [13]) 101 19 = nI (c + 1) := trm_n [13] r c h2
  have m2 := mcs_s m1 (trm_s (voP s m o o x).2 (trm r c [13]) (c + 1))
  have n2 := trm_n (voP s m o o x).2 (trm r c [13]) (c + 1) n1
  refine (en_X10_tellsBy (d := d + 8) s_E).trans ?_
  rw [if_pos (show nI 0 = 0 from rfl)]
  refine (x_ran (d := d + 7) (b := 13) s_E h2 (by omega)).trans ?_
  refine (sg_X10_tellsBy_42 (d := d + 8) s_E).trans ?_
  refine (x_ow (d := d + 6) s_E hs m1).trans ?_
  refine (sg_X10_tellsBy_47 (d := d + 8) s_E).trans ?_
  refine (vm_P s_E hs ho ho d (trm r c [13]) (c + 1) m1 n1 (by omega) _).trans ?_
  refine (sg_X10_tellsBy_51 (d := d + 8) s_E).trans ?_
  refine (x_ow (d := d + 6) s_E hs m2).trans ?_
  refine (sg_X10_tellsBy_58 (d := d + 8) s_E).trans ?_
  refine (vm_up (vm_C s_E hs ho) (show 4 ≤ 8 by decide) d _ _ m2 n2 (by omega) _).trans ?_
  refine (sg_X10_tellsBy_62 (d := d + 8) s_E).trans ?_
  show _ = Q (some (.int (voT0 s m o x).1)) (mkH E (trm (trm r c [13]) (c + 1) ((voP s m o o x).2 ++ (voC s m o x).2)))
  rw [trm_app]
  rfl
theorem vm_T (s_E : oE E) (hs : s < 7) (ho : o < 7) {k : Nat} (hk : k < 7) : vmk E s m o 11 230 k x (voT s m o k x) := by
  have st : ∀ D k y, (k = 1 ∨ k = 2 ∨ k = 3 ∨ k = 4) → vmk E s m o (D + 1) 230 (abT k) x y → vmk E s m o (D + 2) 230 k x y := by
    intro D k y hk h d r c g1 g2 g3 Q
    refine (en_X10_tellsBy (d := d + D + 1) s_E).trans ?_
    rw [if_neg (nI_ne0 (by omega) (by omega)), if_neg (fun q => by have := (nI_eq (a := k) (b := 5) (by omega) (by decide)).mp q; omega), if_neg (fun q => by have := (nI_eq (a := k) (b := 6) (by omega) (by decide)).mp q; omega)]
    refine (x_ab (d := d + D) (k := k) s_E (by omega)).trans ?_
    refine (sg_X10_tellsBy_126 (d := d + D + 1) s_E).trans ?_
    refine (h d r c g1 g2 g3 _).trans ?_
    exact sg_X10_tellsBy_130 (d := d + D + 1) s_E
  have l0 : vmk E s m o 9 230 0 x (voT0 s m o x) := vm_T0 s_E hs ho
  have l1 : vmk E s m o 10 230 1 x (voT0 s m o x) := st 8 1 _ (by decide) l0
  have l2 : vmk E s m o 10 230 2 x (voT0 s m o x) := st 8 2 _ (by decide) l0
  have l3 : vmk E s m o 10 230 3 x (voT0 s m o x) := st 8 3 _ (by decide) l0
  have l5 : vmk E s m o 11 230 5 x ((voT0 s m o x).1 - (voO s o 2).1, 60 :: ((voT0 s m o x).2 ++ (voO s o 2).2)) := by
    intro d r c h1 h2 h3 Q
    have h3 : c + (((voT0 s m o x).2 ++ (voO s o 2).2).length + 1) ≤ 40 := h3
    rw [List.length_append] at h3
    have m1 := mcs_s h1 (trm_s [60] r c)
    have n1 : (trm r c [60]) 101 19 = nI (c + 1) := trm_n [60] r c h2
    have m2 := mcs_s m1 (trm_s (voT0 s m o x).2 (trm r c [60]) (c + 1))
    have n2 := trm_n (voT0 s m o x).2 (trm r c [60]) (c + 1) n1
    refine (en_X10_tellsBy (d := d + 10) s_E).trans ?_
    rw [if_neg (show ¬ nI 5 = 0 from by decide), if_pos (show nI 5 = 5 from rfl)]
    refine (x_ran (d := d + 9) (b := 60) s_E h2 (by omega)).trans ?_
    refine (sg_X10_tellsBy_70 (d := d + 10) s_E).trans ?_
    refine (x_ab (d := d + 9) (k := 5) s_E (by decide)).trans ?_
    refine (sg_X10_tellsBy_75 (d := d + 10) s_E).trans ?_
    refine (l2 d (trm r c [60]) (c + 1) m1 n1 (by omega) _).trans ?_
    refine (sg_X10_tellsBy_79 (d := d + 10) s_E).trans ?_
    refine (x_ow (d := d + 8) s_E hs m2).trans ?_
    refine (sg_X10_tellsBy_86 (d := d + 10) s_E).trans ?_
    refine (vm_up (vm_O (x := 2) s_E ho) (show 4 ≤ 10 by decide) d _ _ m2 n2 (by omega) _).trans ?_
    refine (sg_X10_tellsBy_90 (d := d + 10) s_E).trans ?_
    show _ = Q (some (.int _)) (mkH E (trm (trm r c [60]) (c + 1) ((voT0 s m o x).2 ++ (voO s o 2).2)))
    rw [trm_app]
  have l6 : vmk E s m o 11 230 6 x ((voP s m o o x).1 - (voT0 s m o x).1, 71 :: ((voP s m o o x).2 ++ (voT0 s m o x).2)) := by
    intro d r c h1 h2 h3 Q
    have h3 : c + (((voP s m o o x).2 ++ (voT0 s m o x).2).length + 1) ≤ 40 := h3
    rw [List.length_append] at h3
    have m1 := mcs_s h1 (trm_s [71] r c)
    have n1 : (trm r c [71]) 101 19 = nI (c + 1) := trm_n [71] r c h2
    have m2 := mcs_s m1 (trm_s (voP s m o o x).2 (trm r c [71]) (c + 1))
    have n2 := trm_n (voP s m o o x).2 (trm r c [71]) (c + 1) n1
    refine (en_X10_tellsBy (d := d + 10) s_E).trans ?_
    rw [if_neg (show ¬ nI 6 = 0 from by decide), if_neg (show ¬ nI 6 = 5 from by decide), if_pos (show nI 6 = 6 from rfl)]
    refine (x_ran (d := d + 9) (b := 71) s_E h2 (by omega)).trans ?_
    refine (sg_X10_tellsBy_98 (d := d + 10) s_E).trans ?_
    refine (x_ow (d := d + 8) s_E hs m1).trans ?_
    refine (sg_X10_tellsBy_103 (d := d + 10) s_E).trans ?_
    refine (vm_up (vm_P s_E hs ho ho) (show 8 ≤ 10 by decide) d _ _ m1 n1 (by omega) _).trans ?_
    refine (sg_X10_tellsBy_107 (d := d + 10) s_E).trans ?_
    refine (x_ab (d := d + 9) (k := 6) s_E (by decide)).trans ?_
    refine (sg_X10_tellsBy_115 (d := d + 10) s_E).trans ?_
    refine (l3 d _ _ m2 n2 (by omega) _).trans ?_
    refine (sg_X10_tellsBy_119 (d := d + 10) s_E).trans ?_
    show _ = Q (some (.int _)) (mkH E (trm (trm r c [71]) (c + 1) ((voP s m o o x).2 ++ (voT0 s m o x).2)))
    rw [trm_app]
  have hk' : k = 0 ∨ k = 1 ∨ k = 2 ∨ k = 3 ∨ k = 4 ∨ k = 5 ∨ k = 6 := by omega
  rcases hk' with rfl | rfl | rfl | rfl | rfl | rfl | rfl
  · exact vm_up l0 (by decide)
  · exact vm_up l1 (by decide)
  · exact vm_up l2 (by decide)
  · exact vm_up l3 (by decide)
  · exact st 9 4 _ (by decide) l1
  · exact l5
  · exact l6
end VM
