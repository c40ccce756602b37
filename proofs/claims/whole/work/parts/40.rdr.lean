/-! states that differ at some slots alone -/
def sE (P : Nat → Nat → Prop) (r r' : Nat → Nat → Int32) : Prop := ∀ a k, ¬ P a k → r' a k = r a k
theorem sE_rf {P : Nat → Nat → Prop} {r : Nat → Nat → Int32} : sE P r r := fun _ _ _ => rfl
theorem sE_tr {P : Nat → Nat → Prop} {r r' r'' : Nat → Nat → Int32} (h : sE P r r') (h' : sE P r' r'') : sE P r r'' := fun a k q => (h' a k q).trans (h a k q)
theorem sE_mo {P P' : Nat → Nat → Prop} {r r' : Nat → Nat → Int32} (h : sE P r r') (q : ∀ a k, P a k → P' a k) : sE P' r r' := fun a k n => h a k (fun p => n (q a k p))
theorem sE_u {P : Nat → Nat → Prop} {r : Nat → Nat → Int32} {a k : Nat} {v : Int32} (h : P a k) : sE P r (uI r a k v) := fun b j q => by
  rw [uI_at, if_neg]
  rintro ⟨rfl, rfl⟩
  exact q h
theorem add_in {ro : Nat → Nat → Int32} {r c s : Nat} {v : Int32} (h : rK ro r c s) (hs : s < c) : g_X4_add ro r c v = uI (uI ro (r + 1) s v) r 1 (nI (s + 1)) := by
  obtain ⟨h1, h2, h3⟩ := h
  unfold g_X4_add
  rw [h1, if_neg (nI_pos (by omega)), if_pos (show nI s < Int32.ofNat c from nI_lt hs (by omega)), nI_clamp (by omega), uI_at, if_neg (by omega), h1, ← nI_succ]
theorem take_in {ro : Nat → Nat → Int32} {r c s : Nat} (h : rK ro r c (s + 1)) : f_X4_takeLast ro r c = ro (r + 1) s ∧ g_X4_takeLast ro r c = uI ro r 1 (nI s) := by
  obtain ⟨h1, h2, h3⟩ := h
  have e1 : ¬ nI (s + 1) < 1 := @nI_nlt (s + 1) 1 (by omega) (by omega)
  have e2 : ¬ Int32.ofNat c < nI (s + 1) := nI_nlt h2 (by omega)
  unfold f_X4_takeLast g_X4_takeLast
  rw [h1, if_neg e1, if_neg e2, if_neg e1, if_neg e2, nI_pred]
  refine ⟨?_, rfl⟩
  rw [uI_at, if_neg (by omega), uI_at, if_pos ⟨rfl, rfl⟩, nI_clamp (by omega)]
theorem take_0 {ro : Nat → Nat → Int32} {r c : Nat} (h : ro r 1 = nI 0) : f_X4_takeLast ro r c = 0 ∧ g_X4_takeLast ro r c = ro := by
  unfold f_X4_takeLast g_X4_takeLast
  rw [h, if_pos (by decide), if_pos (by decide)]
  exact ⟨rfl, rfl⟩
/-! the class reads -/
def rdP : Nat → Nat → Prop := fun a k => (a = 81 ∧ k = 2) ∨ (a = 82 ∧ k = 1) ∨ a = 83
def rT (b : Nat → Nat) (n u : Nat) (r : Nat → Nat → Int32) : Prop := r 34 1 = nI n ∧ (∀ k, k < n → r 35 k = nI (b k) ∧ b k < 256) ∧ n ≤ 50 ∧ r 9 0 = nI (u + 1) ∧ u < 2
def rS (p : Nat) (cd : List Int32) (r : Nat → Nat → Int32) : Prop := r 81 2 = nI p ∧ r 82 1 = nI cd.length ∧ ∀ k (h : k < cd.length), r 83 k = cd[k]
def hI (c : Nat) : Int32 := if c < 256 then nI c else -1
section RC
variable {d : Nat} {E : pEv} {b : Nat → Nat} {n u p : Nat} {r r' : Nat → Nat → Int32} {Q : Option Value → pH → Prop} {cd : List Int32}
theorem rT_s (h : rT b n u r) (s : sE rdP r r') : rT b n u r' := by
  obtain ⟨h1, h2, h3, h4, h5⟩ := h
  refine ⟨?_, fun k hk => ?_, h3, ?_, h5⟩
  · rw [s 34 1 (by unfold rdP; omega)]; exact h1
  · rw [s 35 k (by unfold rdP; omega)]; exact h2 k hk
  · rw [s 9 0 (by unfold rdP; omega)]; exact h4
theorem hr_c (h : ∀ k, k < n → b k < 256) (p : Nat) : hr b n p < 256 ∨ hr b n p = 999 := by
  unfold hr
  by_cases q : p < n
  · rw [if_pos q]; exact Or.inl (h p q)
  · rw [if_neg q]; exact Or.inr rfl
theorem hr_lt (h : hr b n p ≠ 999) : p < n := by
  unfold hr at h
  by_cases q : p < n
  · exact q
  · rw [if_neg q] at h; exact absurd rfl h
theorem rT_c (h : rT b n u r) (p : Nat) : hr b n p < 256 ∨ hr b n p = 999 := hr_c (fun k hk => (h.2.1 k hk).2) p
theorem rd_here (hT : rT b n u r) (hp : r 81 2 = nI p) (hpn : p ≤ n) : f_X3_here r = hI (hr b n p) := by
  obtain ⟨h1, h2, h3, h4, h5⟩ := hT
  unfold f_X3_here hr hI
  rw [hp, h1]
  by_cases q : p < n
  · rw [if_pos (nI_lt q (by omega)), at_in ⟨h1, h3, by decide⟩ q, if_pos q, if_pos (h2 p q).2, (h2 p q).1]
  · rw [if_neg (nI_nlt (by omega) (by omega)), if_neg q]
    rfl
theorem dg_t {c : Nat} (h : c < 256 ∨ c = 999) : f_X3_isDigit (hI c) = if dg c then 1 else 0 := by
  have : ∀ c, c < 256 → f_X3_isDigit (hI c) = if dg c then 1 else 0 := by decide +kernel
  rcases h with h | rfl
  · exact this c h
  · decide +kernel
theorem lev_t {c : Nat} (h : c < 256 ∨ c = 999) : f_X3_levelOf (hI c) = if lev c = 9 then -1 else nI (lev c) := by
  have : ∀ c, c < 256 → f_X3_levelOf (hI c) = if lev c = 9 then -1 else nI (lev c) := by decide +kernel
  rcases h with h | rfl
  · exact this c h
  · decide +kernel
theorem rS_at {q : Nat} (h : rS p cd r) (e : nI p + 1 = nI q) : rS q cd (uI r 81 2 (r 81 2 + 1)) := by
  obtain ⟨h1, h2, h3⟩ := h
  refine ⟨?_, ?_, fun k hk => ?_⟩
  · rw [uI_at, if_pos ⟨rfl, rfl⟩, h1, e]
  · rw [uI_at, if_neg (by omega)]; exact h2
  · rw [uI_at, if_neg (by omega)]; exact h3 k hk
theorem rS_add {v : Int32} (h : rS p cd r) (hl : cd.length < 50) : ∃ r', g_X4_add r 82 50 v = r' ∧ sE rdP r r' ∧ rS p (cd ++ [v]) r' := by
  obtain ⟨h1, h2, h3⟩ := h
  refine ⟨_, add_in (s := cd.length) ⟨h2, by omega, by decide⟩ hl, ?_, ?_, ?_, fun k hk => ?_⟩
  · refine sE_tr (sE_u (a := 82 + 1) (k := cd.length) ?_) (sE_u ?_)
    · exact Or.inr (Or.inr rfl)
    · exact Or.inr (Or.inl ⟨rfl, rfl⟩)
  · rw [uI_at, if_neg (by omega), uI_at, if_neg (by omega)]; exact h1
  · rw [uI_at, if_pos ⟨rfl, rfl⟩, List.length_append]
    rfl
  · rw [uI_at, if_neg (by omega), uI_at]
    rw [List.length_append] at hk
    by_cases q : k = cd.length
    · subst q
      rw [if_pos ⟨rfl, rfl⟩]
      simp
    · have hk2 : k < cd.length := by simp at hk; omega
      rw [if_neg (by omega), List.getElem_append_left hk2]
      exact h3 k hk2
theorem nb_le : ∀ k p v, p ≤ n → p ≤ (nb b n k p v).1 ∧ (nb b n k p v).1 ≤ n := by
  intro k
  induction k with
  | zero => intro p v h; exact ⟨Nat.le_refl _, h⟩
  | succ k ih =>
    intro p v h
    unfold nb
    by_cases q : dg (hr b n p) = true
    · rw [if_pos q]
      have hp : p < n := hr_lt (fun e => by rw [e] at q; exact absurd q (by decide))
      have := ih (p + 1) (10 * v + (hr b n p - 48)) hp
      omega
    · rw [if_neg q]
      exact ⟨Nat.le_refl _, h⟩
theorem nb_1 {k v : Nat} (q : dg (hr b n p) = true) : p < (nb b n (k + 1) p v).1 := by
  have hp : p < n := hr_lt (fun e => by rw [e] at q; exact absurd q (by decide))
  unfold nb
  rw [if_pos q]
  have := (nb_le (b := b) (n := n) k (p + 1) (10 * v + (hr b n p - 48)) hp).1
  omega
theorem dg_48 {c : Nat} (h : dg c = true) : 48 ≤ c ∧ c ≤ 57 := by
  unfold dg at h
  simp at h
  exact h
theorem nb_lt : ∀ k p v, (nb b n k p v).2 < (v + 1) * 10 ^ k := by
  intro k
  induction k with
  | zero => intro p v; show v < (v + 1) * 1; omega
  | succ k ih =>
    intro p v
    unfold nb
    by_cases q : dg (hr b n p) = true
    · rw [if_pos q]
      have h1 := ih (p + 1) (10 * v + (hr b n p - 48))
      have h2 := dg_48 q
      refine Nat.lt_of_lt_of_le h1 ?_
      rw [Nat.pow_succ, Nat.mul_comm (10 ^ k) 10, ← Nat.mul_assoc]
      exact Nat.mul_le_mul_right _ (by omega)
    · rw [if_neg q]
      have : 1 ≤ 10 ^ (k + 1) := Nat.one_le_pow _ _ (by decide)
      calc v < (v + 1) * 1 := by omega
        _ ≤ _ := Nat.mul_le_mul_left _ this
theorem rd_num (s_E : oE E) : ∀ k j p v r, j + k = 4 → rT b n u r → rS p cd r → p ≤ n → cd.length < 50 → ∃ r', sE rdP r r' ∧ rS (nb b n k p v).1 (cd ++ [nI (nb b n k p v).2]) r' ∧ ∀ Q, wG (d + 2) 53 (4, [.ref 81, .int (nI v), .int (nI j)], [], mkH E r) Q = Q none (mkH E r') := by
  intro k
  induction k with
  | zero =>
    intro j p v r hj hT hS hp hl
    obtain ⟨r1, e1, s1, t1⟩ := rS_add (v := nI v) hS hl
    refine ⟨r1, s1, t1, fun Q => ?_⟩
    refine (sg_X3_readNumber_4 (d := d + 2) s_E).trans ?_
    rw [if_neg (show ¬ nI j < (4 : Int32) from @nI_nlt j 4 (by omega) (by omega))]
    refine (x_X4_add (d := d + 1) (c_h0 := 50) s_E (oR rfl)).trans ?_
    rw [e1]
    exact sg_X3_readNumber_56 (d := d + 2) s_E
  | succ k ih =>
    intro j p v r hj hT hS hp hl
    have hc := rT_c hT p
    have hh := rd_here hT hS.1 hp
    unfold nb
    by_cases q : dg (hr b n p) = true
    · rw [if_pos q]
      have h48 := dg_48 q
      have hpn : p < n := hr_lt (fun e => by rw [e] at q; exact absurd q (by decide))
      have s1 : sE rdP r (uI r 81 2 (r 81 2 + 1)) := sE_u (Or.inl ⟨rfl, rfl⟩)
      obtain ⟨r2, s2, t2, e2⟩ := ih (j + 1) (p + 1) (10 * v + (hr b n p - 48)) _ (by omega) (rT_s hT s1) (rS_at hS (nI_succ p).symm) hpn hl
      refine ⟨r2, sE_tr s1 s2, t2, fun Q => ?_⟩
      refine (sg_X3_readNumber_4 (d := d + 2) s_E).trans ?_
      rw [if_pos (show nI j < (4 : Int32) from @nI_lt j 4 (by omega) (by decide))]
      refine (x_X3_here (d := d) s_E).trans ?_
      rw [hh]
      refine (sg_X3_readNumber_13 (d := d + 2) s_E).trans ?_
      refine (x_X3_isDigit (d := d + 1) s_E).trans ?_
      rw [dg_t hc, if_pos q]
      refine (sg_X3_readNumber_16 (d := d + 2) s_E).trans ?_
      rw [if_neg (by decide)]
      refine (x_X3_here (d := d) s_E).trans ?_
      rw [hh]
      refine (sg_X3_readNumber_27 (d := d + 2) s_E).trans ?_
      have e3 : nI v * 10 + hI (hr b n p) - 48 = nI (10 * v + (hr b n p - 48)) := by
        unfold hI
        rw [if_pos (by omega)]
        obtain ⟨w, hw⟩ : ∃ w, hr b n p = w + 48 := ⟨hr b n p - 48, by omega⟩
        rw [hw, show w + 48 - 48 = w by omega, ← nI_add, ← nI_add, show (48 : Int32) = nI 48 from rfl, ← Int32.add_assoc, Int32.add_sub_cancel]
        congr 1
        show Int32.ofNat v * Int32.ofNat 10 = Int32.ofNat (10 * v)
        rw [← Int32.ofNat_mul, Nat.mul_comm]
      rw [e3, ← nI_succ]
      exact e2 Q
    · rw [if_neg q]
      obtain ⟨r1, e1, s1, t1⟩ := rS_add (v := nI v) hS hl
      refine ⟨r1, s1, t1, fun Q => ?_⟩
      refine (sg_X3_readNumber_4 (d := d + 2) s_E).trans ?_
      rw [if_pos (show nI j < (4 : Int32) from @nI_lt j 4 (by omega) (by decide))]
      refine (x_X3_here (d := d) s_E).trans ?_
      rw [hh]
      refine (sg_X3_readNumber_13 (d := d + 2) s_E).trans ?_
      refine (x_X3_isDigit (d := d + 1) s_E).trans ?_
      rw [dg_t hc, if_neg q]
      refine (sg_X3_readNumber_16 (d := d + 2) s_E).trans ?_
      rw [if_pos (by decide)]
      refine (x_X4_add (d := d + 1) (c_h0 := 50) s_E (oR rfl)).trans ?_
      rw [e1]
      exact sg_X3_readNumber_56 (d := d + 2) s_E
end RC
