/-! what a code gives -/
def tk (st : List Int32) : Int32 × List Int32 := match st with
  | [] => (0, [])
  | a :: l => (a, l)
def evS (x y z c : Int32) (st : List Int32) : List Int32 :=
  if c < 0 then (if c < -3 then (if c = -33 then (if (tk st).1 = 0 then 1 else 0) :: (tk st).2 else f_X1_joined (-c) (tk (tk st).2).1 (tk st).1 :: (tk (tk st).2).2) else (if c = -1 then x else if c = -2 then y else z) :: st) else c :: st
def evC (x y z : Int32) (cd : List Int32) (st : List Int32) : List Int32 := cd.foldl (fun st c => evS x y z c st) st
def gd (x y z : Int32) (s : Rd) : Prop := ∀ p q cd v, s p = .inr (q, cd, v) → ∀ st, evC x y z cd st = v :: st
section EV
variable {b : Nat → Nat} {n u p : Nat} {x y z : Int32}
theorem evC_app {c1 c2 st : List Int32} : evC x y z (c1 ++ c2) st = evC x y z c2 (evC x y z c1 st) := List.foldl_append
theorem sg_t {c : Nat} (h : lev c < 9) : -nI c < 0 ∧ -nI c < -3 ∧ ¬ -nI c = -33 ∧ -(-nI c) = nI c := by
  have hc : c < 256 := by
    rcases Nat.lt_or_ge c 256 with q | q
    · exact q
    · exfalso
      have : lev c = 9 := by
        unfold lev
        (repeat' split) <;> omega
      omega
  have : ∀ c, c < 256 → lev c < 9 → -nI c < 0 ∧ -nI c < -3 ∧ ¬ -nI c = -33 ∧ -(-nI c) = nI c := by decide +kernel
  exact this c hc h
theorem gd_lp {s : Rd} {l : Nat} (hl : l < 9) (hs : gd x y z s) : ∀ k p c2 v, (∀ st, evC x y z c2 st = v :: st) → ∀ q c3 w, lpR b n l s k p c2 v = .inr (q, c3, w) → ∀ st, evC x y z c3 st = w :: st := by
  intro k
  induction k with
  | zero =>
    intro p c2 v h q c3 w e
    cases e
    exact h
  | succ k ih =>
    intro p c2 v h q c3 w e
    unfold lpR at e
    by_cases q1 : lev (hr b n p) = l
    · rw [if_pos q1] at e
      cases hsp : s (p + 1) with
      | inl f => rw [hsp] at e; cases e
      | inr yy =>
        obtain ⟨q3, cc, w3⟩ := yy
        rw [hsp] at e
        have h3 := hs (p + 1) q3 cc w3 hsp
        have hg := sg_t (c := hr b n p) (by omega)
        refine ih _ _ _ (fun st => ?_) _ _ _ e
        rw [evC_app, evC_app, h, h3]
        show evS x y z (-nI (hr b n p)) (w3 :: v :: st) = _
        unfold evS
        rw [if_pos hg.1, if_pos hg.2.1, if_neg hg.2.2.1, hg.2.2.2]
        rfl
    · rw [if_neg q1] at e
      cases e
      exact h
theorem gd_lv {s : Rd} {l k : Nat} (hl : l < 9) (hs : gd x y z s) : gd x y z (lvR b n l k s) := by
  intro p q cd v e
  unfold lvR at e
  cases hsp : s p with
  | inl f => rw [hsp] at e; cases e
  | inr yy =>
    obtain ⟨q3, cc, w3⟩ := yy
    rw [hsp] at e
    exact gd_lp hl hs k q3 cc w3 (hs p q3 cc w3 hsp) q cd v e
theorem gd_tt {s : Rd} (hs : gd x y z s) : gd x y z (ttR b n s) :=
  gd_lv (by decide) (gd_lv (by decide) (gd_lv (by decide) (gd_lv (by decide) (gd_lv (by decide) hs))))
theorem gd_num {st : List Int32} : evC x y z [nI (nb b n 4 p 0).2] st = nI (nb b n 4 p 0).2 :: st := by
  have h := nb_lt (b := b) (n := n) 4 p 0
  have h2 : (nb b n 4 p 0).2 < 10000 := h
  show evS x y z _ st = _
  unfold evS
  rw [if_neg (nI_pos (by omega))]
theorem gd_name {i : Nat} {st : List Int32} (hi : i < 3) : evC x y z [-1 - nI i] st = naR x y z i :: st := by
  match i, hi with
  | 0, _ => rfl
  | 1, _ => rfl
  | 2, _ => rfl
  | i + 3, h => exact absurd h (by omega)
theorem gd_leaf {st cd : List Int32} {q : Nat} {v : Int32} (e : (if dg (hr b n p) then (.inr ((nb b n 4 p 0).1, [nI (nb b n 4 p 0).2], nI (nb b n 4 p 0).2) : Nat ⊕ (Nat × List Int32 × Int32)) else if nm u (hr b n p) < 3 then .inr (p + 1, [-1 - nI (nm u (hr b n p))], naR x y z (nm u (hr b n p))) else .inl p) = .inr (q, cd, v)) : evC x y z cd st = v :: st := by
  split at e
  · cases e
    exact gd_num
  · split at e
    · rename_i h
      cases e
      exact gd_name h
    · cases e
theorem gd_in : ∀ k, gd x y z (inR b n u x y z k) := by
  intro k
  induction k with
  | zero =>
    intro p q cd v e st
    unfold inR at e
    exact gd_leaf e
  | succ k ih =>
    intro p q cd v e st
    unfold inR at e
    split at e
    · cases e
      exact gd_num
    · split at e
      · rename_i h
        cases e
        exact gd_name h
      · split at e
        · cases hsp : inR b n u x y z k (p + 1) with
          | inl f => rw [hsp] at e; cases e
          | inr yy =>
            obtain ⟨q3, cc, w3⟩ := yy
            rw [hsp] at e
            cases e
            rw [evC_app, ih _ _ _ _ hsp]
            rfl
        · split at e
          · cases hsp : ttR b n (inR b n u x y z k) (p + 1) with
            | inl f => rw [hsp] at e; cases e
            | inr yy =>
              obtain ⟨q3, cc, w3⟩ := yy
              rw [hsp] at e
              have e : (if hr b n q3 = 41 then (.inr (q3 + 1, cc, w3) : Nat ⊕ (Nat × List Int32 × Int32)) else .inl q3) = .inr (q, cd, v) := e
              split at e
              · cases e
                exact gd_tt ih _ _ _ _ hsp st
              · cases e
          · cases e
theorem gd_tx {w : List Int32 × Int32} (h : txR b n u x y z = .inr w) : evC x y z w.1 [] = [w.2] := by
  unfold txR at h
  cases hsp : ttR b n (inR b n u x y z 5) 0 with
  | inl f => rw [hsp] at h; cases h
  | inr yy =>
    obtain ⟨q3, cc, w3⟩ := yy
    rw [hsp] at h
    have h : (if q3 < n then (.inl q3 : Nat ⊕ (List Int32 × Int32)) else .inr (cc, w3)) = .inr w := h
    split at h
    · cases h
    · cases h
      exact gd_tt (gd_in 5) _ _ _ _ hsp []
/-! the code doesn't hang on the names -/
def dv (x : Nat ⊕ (Nat × List Int32 × Int32)) : Nat ⊕ (Nat × List Int32) := match x with
  | .inl f => .inl f
  | .inr y => .inr (y.1, y.2.1)
theorem dv_l {x : Nat ⊕ (Nat × List Int32 × Int32)} {f : Nat} (h : dv x = .inl f) : x = .inl f := by
  cases x with
  | inl g => cases h; rfl
  | inr y => cases h
theorem dv_r {x : Nat ⊕ (Nat × List Int32 × Int32)} {q : Nat × List Int32} (h : dv x = .inr q) : ∃ v, x = .inr (q.1, q.2, v) := by
  cases x with
  | inl g => cases h
  | inr y => cases h; exact ⟨y.2.2, rfl⟩
def dE (s s' : Rd) : Prop := ∀ p, dv (s p) = dv (s' p)
theorem dE_lp {s s' : Rd} {l : Nat} (hs : dE s s') : ∀ k p c2 v v', dv (lpR b n l s k p c2 v) = dv (lpR b n l s' k p c2 v') := by
  intro k
  induction k with
  | zero => intro p c2 v v'; rfl
  | succ k ih =>
    intro p c2 v v'
    unfold lpR
    by_cases q1 : lev (hr b n p) = l
    · rw [if_pos q1, if_pos q1]
      have h := hs (p + 1)
      cases hsp : s (p + 1) with
      | inl f =>
        rw [hsp] at h
        rw [dv_l h.symm]
      | inr yy =>
        obtain ⟨q3, cc, w3⟩ := yy
        rw [hsp] at h
        obtain ⟨v3, hv3⟩ := dv_r h.symm
        rw [hv3]
        exact ih _ _ _ _
    · rw [if_neg q1, if_neg q1]
      rfl
theorem dE_lv {s s' : Rd} {l k : Nat} (hs : dE s s') : dE (lvR b n l k s) (lvR b n l k s') := by
  intro p
  unfold lvR
  have h := hs p
  cases hsp : s p with
  | inl f =>
    rw [hsp] at h
    rw [dv_l h.symm]
  | inr yy =>
    obtain ⟨q3, cc, w3⟩ := yy
    rw [hsp] at h
    obtain ⟨v3, hv3⟩ := dv_r h.symm
    rw [hv3]
    exact dE_lp hs _ _ _ _ _
theorem dE_tt {s s' : Rd} (hs : dE s s') : dE (ttR b n s) (ttR b n s') := dE_lv (dE_lv (dE_lv (dE_lv (dE_lv hs))))
theorem dE_in {x' y' z' : Int32} : ∀ k, dE (inR b n u x y z k) (inR b n u x' y' z' k) := by
  intro k
  induction k with
  | zero =>
    intro p
    unfold inR
    split
    · rfl
    · split <;> rfl
  | succ k ih =>
    intro p
    unfold inR
    split
    · rfl
    · split
      · rfl
      · split
        · have h := ih (p + 1)
          cases hsp : inR b n u x y z k (p + 1) with
          | inl f =>
            rw [hsp] at h
            rw [dv_l h.symm]
          | inr yy =>
            obtain ⟨q3, cc, w3⟩ := yy
            rw [hsp] at h
            obtain ⟨v3, hv3⟩ := dv_r h.symm
            rw [hv3]
            rfl
        · split
          · have h := dE_tt (b := b) (n := n) ih (p + 1)
            cases hsp : ttR b n (inR b n u x y z k) (p + 1) with
            | inl f =>
              rw [hsp] at h
              rw [dv_l h.symm]
            | inr yy =>
              obtain ⟨q3, cc, w3⟩ := yy
              rw [hsp] at h
              obtain ⟨v3, hv3⟩ := dv_r h.symm
              rw [hv3]
              show dv (if hr b n q3 = 41 then _ else _) = dv (if hr b n q3 = 41 then _ else _)
              split <;> rfl
          · rfl
theorem tx_l {x' y' z' : Int32} {f : Nat} (h : txR b n u x y z = .inl f) : txR b n u x' y' z' = .inl f := by
  have hd := dE_tt (b := b) (n := n) (dE_in (b := b) (n := n) (u := u) (x := x) (y := y) (z := z) (x' := x') (y' := y') (z' := z') 5) 0
  unfold txR at h ⊢
  cases hsp : ttR b n (inR b n u x y z 5) 0 with
  | inl g =>
    rw [hsp] at h hd
    rw [dv_l hd.symm]
    exact h
  | inr yy =>
    obtain ⟨q3, cc, w3⟩ := yy
    rw [hsp] at h hd
    obtain ⟨v3, hv3⟩ := dv_r hd.symm
    rw [hv3]
    have h : (if q3 < n then (.inl q3 : Nat ⊕ (List Int32 × Int32)) else .inr (cc, w3)) = .inl f := h
    show (if q3 < n then (.inl q3 : Nat ⊕ (List Int32 × Int32)) else .inr (cc, v3)) = .inl f
    split at h
    · rename_i q; rw [if_pos q]; exact h
    · cases h
theorem tx_r {x' y' z' : Int32} {w : List Int32 × Int32} (h : txR b n u x y z = .inr w) : ∃ v, txR b n u x' y' z' = .inr (w.1, v) := by
  have hd := dE_tt (b := b) (n := n) (dE_in (b := b) (n := n) (u := u) (x := x) (y := y) (z := z) (x' := x') (y' := y') (z' := z') 5) 0
  unfold txR at h ⊢
  cases hsp : ttR b n (inR b n u x y z 5) 0 with
  | inl g =>
    rw [hsp] at h
    cases h
  | inr yy =>
    obtain ⟨q3, cc, w3⟩ := yy
    rw [hsp] at h hd
    obtain ⟨v3, hv3⟩ := dv_r hd.symm
    rw [hv3]
    have h : (if q3 < n then (.inl q3 : Nat ⊕ (List Int32 × Int32)) else .inr (cc, w3)) = .inr w := h
    split at h
    · cases h
    · rename_i q
      cases h
      exact ⟨v3, if_neg q⟩
end EV
