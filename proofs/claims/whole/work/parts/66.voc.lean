/-! VOICES -/
def owT (a k : Nat) : Nat := ([[0, 0, 2, 0, 0, 2, 0], [0, 1, 0, 0, 4, 0, 0], [0, 0, 0, 3, 0, 0, 6], [0, 0, 0, 0, 0, 5, 6]].getD a []).getD k 0
def bdT (a k : Nat) : Nat := ([[10, 10, 30, 10, 10, 30, 10], [11, 20, 11, 11, 50, 11, 11], [12, 12, 12, 40, 12, 12, 70], [13, 13, 13, 13, 13, 60, 71]].getD a []).getD k 0
def voO (n k : Nat) (x : Int32) : Int32 × List Nat := if k = 2 ∨ k = 5 then ((x + nI n) * 3, [30, 10]) else (x + nI n, [10])
def voC (n m k : Nat) (x : Int32) : Int32 × List Nat := if k = 3 then (-(x - nI m), [40, 12]) else if k = 6 then ((-(x - nI m)) ^^^ nI n, [70, 40, 12]) else (x - nI m, [12])
def voP0 (n o : Nat) (x : Int32) : Int32 × List Nat := ((voO n o x).1 * 2, 11 :: (voO n o x).2)
def voP1 (n m o : Nat) (x : Int32) : Int32 × List Nat := ((voP0 n o x).1 - (voC n m o 1).1, 20 :: ((voP0 n o x).2 ++ (voC n m o 1).2))
def voP (n m o k : Nat) (x : Int32) : Int32 × List Nat := if k = 1 then voP1 n m o x else if k = 4 then ((voP1 n m o (x + 1)).1, 50 :: (voP1 n m o (x + 1)).2) else voP0 n o x
def voT0 (n m o : Nat) (x : Int32) : Int32 × List Nat := ((voP n m o o x).1 ^^^ (voC n m o x).1, 13 :: ((voP n m o o x).2 ++ (voC n m o x).2))
def voT (n m o k : Nat) (x : Int32) : Int32 × List Nat := if k = 5 then ((voT0 n m o x).1 - (voO n o 2).1, 60 :: ((voT0 n m o x).2 ++ (voO n o 2).2)) else if k = 6 then ((voP n m o o x).1 - (voT0 n m o x).1, 71 :: ((voP n m o o x).2 ++ (voT0 n m o x).2)) else voT0 n m o x
def vo (n m o a k : Nat) (x : Int32) : Int32 × List Nat := if a = 0 then voO n k x else if a = 1 then voP n m o k x else if a = 2 then voC n m k x else voT n m o k x
/-- bodies put down behind what stands: class, model -/
def tra : (Nat → Nat → Int32) → Nat → List Nat → Nat → Nat → Int32
  | r, _, [] => r
  | r, c, b :: l => tra (uI (uI r 86 c (nI b)) 85 1 (nI (c + 1))) (c + 1) l
def trm : (Nat → Nat → Int32) → Nat → List Nat → Nat → Nat → Int32
  | r, _, [] => r
  | r, c, b :: l => trm (uI (uI r 111 c (nI b)) 101 19 (nI (c + 1))) (c + 1) l
section VC
variable {d : Nat} {E : pEv} {ro r r' : Nat → Nat → Int32} {Q : Option Value → pH → Prop} {s m o : Nat} {x : Int32}
theorem tra_app : ∀ (l1 l2 : List Nat) (r : Nat → Nat → Int32) c, tra r c (l1 ++ l2) = tra (tra r c l1) (c + l1.length) l2 := by
  intro l1
  induction l1 with
  | nil => intro l2 r c; rfl
  | cons b l ih =>
    intro l2 r c
    show tra _ (c + 1) (l ++ l2) = tra (tra _ (c + 1) l) (c + (l.length + 1)) l2
    rw [ih, show c + 1 + l.length = c + (l.length + 1) by omega]
theorem trm_app : ∀ (l1 l2 : List Nat) (r : Nat → Nat → Int32) c, trm r c (l1 ++ l2) = trm (trm r c l1) (c + l1.length) l2 := by
  intro l1
  induction l1 with
  | nil => intro l2 r c; rfl
  | cons b l ih =>
    intro l2 r c
    show trm _ (c + 1) (l ++ l2) = trm (trm _ (c + 1) l) (c + (l.length + 1)) l2
    rw [ih, show c + 1 + l.length = c + (l.length + 1) by omega]
def trP : Nat → Nat → Prop := fun a k => (a = 85 ∧ k = 1) ∨ a = 86
def tmP : Nat → Nat → Prop := fun a k => (a = 101 ∧ k = 19) ∨ a = 111
theorem tra_s : ∀ (l : List Nat) (r : Nat → Nat → Int32) c, sE trP r (tra r c l) := by
  intro l
  induction l with
  | nil => intro r c; exact sE_rf
  | cons b l ih => intro r c; exact sE_tr (sE_tr (sE_u (Or.inr rfl)) (sE_u (Or.inl ⟨rfl, rfl⟩))) (ih _ _)
theorem trm_s : ∀ (l : List Nat) (r : Nat → Nat → Int32) c, sE tmP r (trm r c l) := by
  intro l
  induction l with
  | nil => intro r c; exact sE_rf
  | cons b l ih => intro r c; exact sE_tr (sE_tr (sE_u (Or.inr rfl)) (sE_u (Or.inl ⟨rfl, rfl⟩))) (ih _ _)
theorem tra_n : ∀ (l : List Nat) (r : Nat → Nat → Int32) c, r 85 1 = nI c → (tra r c l) 85 1 = nI (c + l.length) := by
  intro l
  induction l with
  | nil => intro r c h; exact h
  | cons b l ih =>
    intro r c h
    have := ih (uI (uI r 86 c (nI b)) 85 1 (nI (c + 1))) (c + 1) (by rw [uI_at, if_pos ⟨rfl, rfl⟩])
    rw [show c + (b :: l).length = c + 1 + l.length by simp; omega]
    exact this
theorem trm_n : ∀ (l : List Nat) (r : Nat → Nat → Int32) c, r 101 19 = nI c → (trm r c l) 101 19 = nI (c + l.length) := by
  intro l
  induction l with
  | nil => intro r c h; exact h
  | cons b l ih =>
    intro r c h
    have := ih (uI (uI r 111 c (nI b)) 101 19 (nI (c + 1))) (c + 1) (by rw [uI_at, if_pos ⟨rfl, rfl⟩])
    rw [show c + (b :: l).length = c + 1 + l.length by simp; omega]
    exact this
/-- the same bodies on both sides -/
theorem tr_eq : ∀ (l : List Nat) (r r' : Nat → Nat → Int32) c, (∀ i, i < c → r 86 i = r' 111 i) → ∀ i, i < c + l.length → (tra r c l) 86 i = (trm r' c l) 111 i := by
  intro l
  induction l with
  | nil => intro r r' c h i hi; exact h i hi
  | cons b l ih =>
    intro r r' c h i hi
    refine ih _ _ (c + 1) (fun i hi => ?_) i (by simp at hi; omega)
    have e1 : (uI (uI r 86 c (nI b)) 85 1 (nI (c + 1))) 86 i = if 86 = 86 ∧ i = c then nI b else r 86 i := by rw [uI_at, if_neg (by omega), uI_at]
    have e2 : (uI (uI r' 111 c (nI b)) 101 19 (nI (c + 1))) 111 i = if 111 = 111 ∧ i = c then nI b else r' 111 i := by rw [uI_at, if_neg (by omega), uI_at]
    rw [e1, e2]
    by_cases q : i = c
    · rw [if_pos ⟨rfl, q⟩, if_pos ⟨rfl, q⟩]
    · rw [if_neg (by omega), if_neg (by omega)]
      exact h i (by omega)
def ow7 (E : pEv) (x0 : Int32) (a : Int32) : Int32 := itx (fun _ a => decide (a < 0) || !(f_X7_bodyOf E x0 a == 0)) (fun _ a => if a < 0 then -1 else a) (fun _ a => f_X9_aboveOf E a) (fun _ => -1) 7 0 a
theorem ow_t {a k : Nat} (ha : a < 4) (hk : k < 7) : ow7 E (nI a) (nI k) = nI (owT a k) := by
  have : ∀ a, a < 4 → ∀ k, k < 7 → ow7 (0, fun _ => 0, fun _ _ => none) (nI a) (nI k) = nI (owT a k) := by decide +kernel
  exact this a ha k hk
theorem bd_t {a k : Nat} (ha : a < 4) (hk : k < 7) : f_X7_bodyOf E (nI a) (nI (owT a k)) = nI (bdT a k) := by
  have : ∀ a, a < 4 → ∀ k, k < 7 → f_X7_bodyOf (0, fun _ => 0, fun _ _ => none) (nI a) (nI (owT a k)) = nI (bdT a k) := by decide +kernel
  exact this a ha k hk
theorem ow_lt : ∀ a, a < 4 → ∀ k, k < 7 → owT a k < 7 := by decide +kernel
theorem x_owner (s_E : oE E) {a k : Nat} (ha : a < 4) (hk : k < 7) : wX (d + 3) 87 [.int (nI a), .int (nI k)] (mkH E ro) Q = Q (some (.int (nI (owT a k)))) (mkH E ro) := by
  rw [← ow_t (E := E) ha hk]
  refine (en_X7_ownerOf (d := d + 2) s_E).trans ?_
  exact loop_itx (α := Int32) (P := fun i y => wG (d + 2) 87 (4, [.int (nI a), .int (nI k), .int y, .int (nI i)], [], mkH E ro) Q) (R := fun v => Q (some (.int v)) (mkH E ro)) (I := fun _ _ => True) (n := 7)
    (fun i y hi _ => by
      show wG (d + 2) 87 (4, [.int (nI a), .int (nI k), .int y, .int (nI i)], [], mkH E ro) Q = _
      rw [sg_X7_ownerOf_4 s_E, if_pos (show nI i < (7 : Int32) from @nI_lt i 7 hi (by decide))]
      by_cases h : y < 0
      · rw [if_pos h]
        simp [h]
      · rw [if_neg h]
        refine (x_X7_bodyOf (d := d + 1) s_E).trans ?_
        refine (sg_X7_ownerOf_19 (d := d + 2) s_E).trans ?_
        by_cases h2 : f_X7_bodyOf E (nI a) y = 0
        · rw [if_pos h2]
          refine (x_X9_aboveOf (d := d) s_E).trans ?_
          refine (sg_X7_ownerOf_28 (d := d + 2) s_E).trans ?_
          rw [← nI_succ]
          simp [h, h2]
        · rw [if_neg h2]
          simp [h, h2])
    (fun _ _ _ _ _ => trivial)
    (fun y _ => by
      show wG (d + 2) 87 (4, [.int (nI a), .int (nI k), .int y, .int (nI 7)], [], mkH E ro) Q = _
      rw [sg_X7_ownerOf_4 s_E, if_neg (show ¬ nI 7 < (7 : Int32) from by decide)])
    7 0 (nI k) (by omega) trivial
/-- the scene that speaks -/
def scV (s m o : Nat) (r : Nat → Nat → Int32) : Prop := r (13 + s) 0 = nI s ∧ r (13 + s) 1 = nI o ∧ r (13 + s) 2 = nI m
theorem scV_s (h : scV s m o r) (hs : s < 7) (q : sE trP r r') : scV s m o r' := by
  refine ⟨?_, ?_, ?_⟩
  · rw [q _ _ (by unfold trP; omega)]; exact h.1
  · rw [q _ _ (by unfold trP; omega)]; exact h.2.1
  · rw [q _ _ (by unfold trP; omega)]; exact h.2.2
/-- speaking: an act found from a kind on, D deep at most -/
def spk (E : pEv) (s m o D a k : Nat) (x : Int32) (y : Int32 × List Nat) : Prop := ∀ d r c dep, D ≤ d → dep + D ≤ 21 → scV s m o r → r 85 1 = nI c → c + y.2.length ≤ 40 → ∀ Q, wX (d + 5 + D) 89 [.ref 84, .ref (13 + s), .int (nI k), .int (nI a), .int x, .int (nI dep)] (mkH E r) Q = Q (some (.int y.1)) (mkH E (tra r c y.2))
theorem x_spk (s_E : oE E) (hs : s < 7) {D a k : Nat} (ha : a < 4) (hk : k < 7) {x v : Int32} {l : List Nat} (hrun : ∀ d r c dep, D ≤ d → dep + D ≤ 21 → scV s m o r → r 85 1 = nI c → c + l.length ≤ 40 → ∀ Q, wX (d + 5 + D) 90 [.ref 84, .int (nI (bdT a k)), .ref (13 + s), .int (aK (owT a k)), .int x, .int (nI dep)] (mkH E r) Q = Q (some (.int v)) (mkH E (tra r c l))) : spk E s m o (D + 1) a k x (v, bdT a k :: l) := by
  intro d r c dep hd hdep hsc h85 hlen Q
  have hlen : c + (l.length + 1) ≤ 40 := hlen
  have hadd := add_in (ro := r) (r := 85) (c := 40) (s := c) (v := nI (bdT a k)) ⟨h85, by omega, by decide⟩ (by omega)
  have how := ow_lt a ha k hk
  have q : sE trP r (uI (uI r 86 c (nI (bdT a k))) 85 1 (nI (c + 1))) := sE_tr (sE_u (Or.inr rfl)) (sE_u (Or.inl ⟨rfl, rfl⟩))
  refine (en_X7_speak (d := d + 5 + D) s_E (oS11 hs)).trans ?_
  obtain ⟨e, he⟩ : ∃ e, d + 5 + D = e + 3 := ⟨d + 2 + D, by omega⟩
  have st1 : ∀ Q', wX (d + 5 + D) 87 [.int (nI a), .int (nI k)] (mkH E r) Q' = Q' (some (.int (nI (owT a k)))) (mkH E r) := fun Q' => by rw [he]; exact x_owner s_E ha hk
  refine (st1 _).trans ?_
  refine (sg_X7_speak_5 (d := d + 5 + D) s_E (oS11 hs)).trans ?_
  rw [if_neg (nI_pos (by omega)), if_neg (show ¬ (20 : Int32) < nI dep from @nI_nlt 20 dep (by omega) (by decide))]
  have st2 : ∀ Q', wX (d + 5 + D) 88 [.int (nI a), .int (nI (owT a k))] (mkH E r) Q' = Q' (some (.int (nI (bdT a k)))) (mkH E r) := fun Q' => by
    rw [he]
    refine (x_X7_bodyOf (d := e + 2) s_E).trans ?_
    rw [bd_t ha hk]
  refine (st2 _).trans ?_
  refine (sg_X7_speak_27 (d := d + 5 + D) s_E (oS11 hs)).trans ?_
  have st3 : ∀ Q', wX (d + 5 + D) 59 [.ref 85, .int (nI (bdT a k))] (mkH E r) Q' = Q' none (mkH E (uI (uI r 86 c (nI (bdT a k))) 85 1 (nI (c + 1)))) := fun Q' => by
    rw [he]
    refine (x_X4_add (d := e + 2) (c_h0 := 40) s_E (oR rfl)).trans ?_
    rw [hadd]
  refine (st3 _).trans ?_
  refine (sg_X7_speak_38 (d := d + 5 + D) s_E (oS11 hs)).trans ?_
  have st4 : ∀ Q', wX (d + 5 + D) 150 [.int (nI (owT a k))] (mkH E (uI (uI r 86 c (nI (bdT a k))) 85 1 (nI (c + 1)))) Q' = Q' (some (.int (aK (owT a k)))) (mkH E (uI (uI r 86 c (nI (bdT a k))) 85 1 (nI (c + 1)))) := fun Q' => by
    rw [he]
    refine (x_X9_aboveOf (d := e + 1) s_E).trans ?_
    rw [above_in how]
  refine (st4 _).trans ?_
  refine (sg_X7_speak_47 (d := d + 5 + D) s_E (oS11 hs) (oS11 hs)).trans ?_
  rw [← nI_succ]
  refine (hrun d _ (c + 1) (dep + 1) (by omega) (by omega) (scV_s hsc hs q) (by rw [uI_at, if_pos ⟨rfl, rfl⟩]) (by omega) _).trans ?_
  exact sg_X7_speak_56 (d := d + 5 + D) s_E (oS11 hs)
theorem spk_up {D a k : Nat} {y : Int32 × List Nat} (h : spk E s m o D a k x y) {d c dep : Nat} (hd : D + 1 ≤ d) (hdep : dep + (D + 1) ≤ 21) (hsc : scV s m o r) (h85 : r 85 1 = nI c) (hl : c + y.2.length ≤ 40) : ∀ Q, wX (d + 4 + (D + 1)) 89 [.ref 84, .ref (13 + s), .int (nI k), .int (nI a), .int x, .int (nI dep)] (mkH E r) Q = Q (some (.int y.1)) (mkH E (tra r c y.2)) := by
  intro Q
  have := h d r c dep (by omega) (by omega) hsc h85 hl Q
  rw [show d + 5 + D = d + 4 + (D + 1) by omega] at this
  exact this
end VC
