/-! WHAT A RUN DOES, as equations: wX a call, wG a frame; fuel is hidden -/
theorem stp_cf {cf cf' : Nat → List Value → pH → Option (Option Value × pH)} (hc : ∀ mm as h r, cf mm as h = some r → cf' mm as h = some r) {k pc : Nat} {e : pE} {L st : List Value} {h : pH} {r : pR} (hs : stp cf k pc e L st h = some r) : stp cf' k pc e L st h = some r := by
  obtain ⟨i, x, ps⟩ := e
  have hd : ∀ mm, doC cf mm pc L st h = some r → doC cf' mm pc L st h = some r := by
    intro mm q
    unfold doC at q ⊢
    split at q
    · cases q
    · rename_i hl
      rw [if_neg hl]
      split at q
      · rename_i v h' hq
        rw [hc _ _ _ _ hq]
        exact q
      · cases q
  cases i
  case invokevirtual j =>
    simp only [stp] at hs ⊢
    split at hs
    · rename_i q
      rw [if_pos q]
      exact hd _ hs
    · cases hs
  case invokespecial j =>
    simp only [stp] at hs ⊢
    split at hs
    · rename_i q
      rw [if_pos q]
      exact hd _ hs
    · rename_i q
      rw [if_neg q]
      exact hs
  case invokestatic j =>
    simp only [stp] at hs ⊢
    split at hs
    · rename_i q
      rw [if_pos q]
      exact hd _ hs
    · rename_i q
      rw [if_neg q]
      exact hs
  all_goals exact hs
theorem run_mono {cf cf' : Nat → List Value → pH → Option (Option Value × pH)} (hc : ∀ mm as h r, cf mm as h = some r → cf' mm as h = some r) {k : Nat} : ∀ (n n' : Nat) (a : pF) (r : Option Value × pH), n ≤ n' → run cf k n a = some r → run cf' k n' a = some r := by
  intro n
  induction n with
  | zero => intro n' a r _ h; cases h
  | succ n ih =>
    intro n' a r hn h
    obtain ⟨q, rfl⟩ : ∃ q, n' = q + 1 := ⟨n' - 1, by omega⟩
    unfold run at h ⊢
    split at h
    · cases h
    · rename_i e he
      split at h
      · cases h
      · rename_i c' hs
        simp only [he, stp_cf hc hs]
        exact ih q c' r (by omega) h
      · rename_i r' hs
        simp only [he, stp_cf hc hs]
        exact h
theorem evM_mono : ∀ (d n n' mm : Nat) (as : List Value) (h : pH) (r : Option Value × pH), n ≤ n' → evM d n mm as h = some r → evM d n' mm as h = some r := by
  intro d
  induction d with
  | zero => intro n n' mm as h r _ q; cases q
  | succ d ih =>
    intro n n' mm as h r hn q
    unfold evM at q ⊢
    split at q
    · rename_i hc
      rw [if_pos hc]
      exact run_mono (fun mm as h r q => ih n n' mm as h r hn q) n n' _ r hn q
    · cases q
def wX (d m : Nat) (as : List Value) (h : pH) (Q : Option Value → pH → Prop) : Prop := ∃ (n : Nat) (v : Option Value) (h' : pH), evM d n m as h = some (v, h') ∧ Q v h'
def wG (d k : Nat) (a : pF) (Q : Option Value → pH → Prop) : Prop := ∃ (n : Nat) (v : Option Value) (h' : pH), run (evM d n) k n a = some (v, h') ∧ Q v h'
section WP
variable {d k pc m : Nat} {e : pE} {L st : List Value} {h : pH} {a : pF} {Q : Option Value → pH → Prop} {as : List Value}
theorem wX_in (hok : okA (mSig m) as = true) (hm : m < 258) : wX (d + 1) m as h Q = wG d m (0, inL m as, [], h) Q := by
  have e1 : ∀ n, evM (d + 1) n m as h = run (evM d n) m n (0, inL m as, [], h) := fun n => by
    show (if okA (mSig m) as = true ∧ m < 258 then _ else _) = _
    rw [if_pos ⟨hok, hm⟩]
  unfold wX wG
  simp only [e1]
theorem wG_s (he : pEnt k pc = some e) (hs : ∀ cf, stp cf k pc e L st h = some (.inl a)) : wG d k (pc, L, st, h) Q = wG d k a Q := by
  have e1 : ∀ cf n, run cf k (n + 1) (pc, L, st, h) = run cf k n a := fun cf n => by
    show (match pEnt k pc with | none => none | some e => _) = _
    simp only [he, hs]
  apply propext
  constructor
  · rintro ⟨n, v, h', hr, hq⟩
    cases n with
    | zero => cases hr
    | succ n =>
      rw [e1] at hr
      exact ⟨n + 1, v, h', run_mono (fun _ _ _ _ q => q) n (n + 1) _ _ (Nat.le_succ n) hr, hq⟩
  · rintro ⟨n, v, h', hr, hq⟩
    refine ⟨n + 1, v, h', ?_, hq⟩
    rw [e1]
    exact run_mono (fun mm as h r q => evM_mono d n (n + 1) mm as h r (Nat.le_succ n) q) n n _ _ (Nat.le_refl n) hr
theorem wG_r {v : Option Value} (he : pEnt k pc = some e) (hs : ∀ cf, stp cf k pc e L st h = some (.inr (v, h))) : wG d k (pc, L, st, h) Q = Q v h := by
  have e1 : ∀ cf n, run cf k (n + 1) (pc, L, st, h) = some (v, h) := fun cf n => by
    show (match pEnt k pc with | none => none | some e => _) = _
    simp only [he, hs]
  apply propext
  constructor
  · rintro ⟨n, v', h', hr, hq⟩
    cases n with
    | zero => cases hr
    | succ n =>
      rw [e1] at hr
      cases hr
      exact hq
  · intro hq
    exact ⟨1, v, h, e1 _ 0, hq⟩
theorem wG_c {rest : List Value} (he : pEnt k pc = some e) (hs : ∀ cf, stp cf k pc e L st h = (match cf m as h with | some (v, h') => some (.inl (pc + 3, L, v.toList ++ rest, h')) | none => none)) : wG d k (pc, L, st, h) Q = wX d m as h (fun v h' => wG d k (pc + 3, L, v.toList ++ rest, h') Q) := by
  have e1 : ∀ cf n, run cf k (n + 1) (pc, L, st, h) = (match cf m as h with | some (v, h') => run cf k n (pc + 3, L, v.toList ++ rest, h') | none => none) := fun cf n => by
    show (match pEnt k pc with | none => none | some e => _) = _
    simp only [he, hs]
    cases hcf : cf m as h with
    | none => rfl
    | some q => rfl
  apply propext
  constructor
  · rintro ⟨n, v, h', hr, hq⟩
    cases n with
    | zero => cases hr
    | succ n =>
      rw [e1] at hr
      cases hcf : evM d (n + 1) m as h with
      | none => rw [hcf] at hr; cases hr
      | some q =>
        obtain ⟨v1, h1⟩ := q
        rw [hcf] at hr
        exact ⟨n + 1, v1, h1, hcf, n + 1, v, h', run_mono (fun _ _ _ _ q => q) n (n + 1) _ _ (Nat.le_succ n) hr, hq⟩
  · rintro ⟨n, v1, h1, hcf, n2, v, h', hr, hq⟩
    refine ⟨max n n2 + 1, v, h', ?_, hq⟩
    rw [e1, evM_mono d n (max n n2 + 1) m as h _ (by omega) hcf]
    exact run_mono (fun mm as h r q => evM_mono d n2 (max n n2 + 1) mm as h r (by omega) q) n2 (max n n2) _ _ (by omega) hr
/-- a weaker end -/
theorem wX_w {Q' : Option Value → pH → Prop} (h1 : wX d m as h Q) (h2 : ∀ v h', Q v h' → Q' v h') : wX d m as h Q' := by
  obtain ⟨n, v, h', q1, q2⟩ := h1
  exact ⟨n, v, h', q1, h2 v h' q2⟩
end WP
/-! the heap behind the constructors: shapes and references stand, ints move -/
theorem mk_all : evM 8 3000 kPB [.ref 10] (pAl h_b (.inl 9) 9) = some (none, h_c1) ∧ h_c1.1 = (101, 2440) ∧ evM 8 3000 kPM [.ref 101] (pAl h_c1 (.inl 10) 25) = some (none, h_c2) ∧ h_c2.1 = (116, 3331) ∧
    ∀ j, j < 106 → h_c2.2.1 (10 + j) = sB (10 + j) ∧ (∀ q, q < 30 → h_c2.2.2.1 (10 + j) q = rB (10 + j) q) ∧ ∀ q, q < szB (10 + j) → h_c2.2.2.2 (10 + j) q = iB (10 + j) q := by
  have h := mkOK_ok
  unfold mkOK at h
  split at h
  · rename_i h1 e1
    simp only [Bool.and_eq_true, decide_eq_true_eq] at h
    obtain ⟨g1, h⟩ := h
    split at h
    · rename_i h2 e2
      simp only [Bool.and_eq_true, decide_eq_true_eq] at h
      obtain ⟨g2, g3⟩ := h
      have c1 : h_c1 = h1 := by unfold h_c1; rw [e1]
      have c2 : h_c2 = h2 := by unfold h_c2; rw [c1, e2]
      rw [c1, c2]
      refine ⟨e1, g1, e2, g2, fun j hj => ?_⟩
      have g4 := List.all_eq_true.mp g3 j (List.mem_range.mpr hj)
      simp only [Bool.and_eq_true, decide_eq_true_eq] at g4
      obtain ⟨⟨g5, g6⟩, g7⟩ := g4
      refine ⟨g5, fun q hq => ?_, fun q hq => ?_⟩
      · have := List.all_eq_true.mp g6 q (List.mem_range.mpr hq)
        simpa using this
      · have := List.all_eq_true.mp g7 q (List.mem_range.mpr hq)
        simpa using this
    · cases h
  · cases h
def rC : Nat → Nat → Option Nat := h_c2.2.2.1
theorem rC_at {i q : Nat} (h1 : 10 ≤ i) (h2 : i < 116) (hq : q < 30) : rC i q = rB i q := by
  obtain ⟨-, -, -, -, h⟩ := mk_all
  have := (h (i - 10) (by omega)).2.1 q hq
  rw [show 10 + (i - 10) = i by omega] at this
  exact this
/-- E: the script's length and ints, the references; ro: what the made cells hold (at 9, 0: the one reference that moves, Reader.names) -/
abbrev pEv : Type := Nat × (Nat → Int32) × (Nat → Nat → Option Nat)
def mkH (E : pEv) (ro : Nat → Nat → Int32) : pH := ((116, 3331), va_up sB 9 (.inr (0, E.1)), uR E.2.2 81 1 (some (ro 9 0).toNatClampNeg), fun i => if i < 10 then exI E.2.1 i else ro i)
/-- the references, as the table has them -/
def oE (E : pEv) : Prop := (∀ i q, 10 ≤ i → i < 116 → q < 30 → E.2.2 i q = rB i q) ∧ ∀ a, a < 3 → E.2.2 a 0 = some (3 + a)
theorem sB_hi {i : Nat} (h : 116 ≤ i) : sB i = .inr (9, 0) := by
  unfold sB
  by_cases hi : i < 128
  · have e : i / 16 = 7 := by omega
    rw [e]
    have e3 : (tSh.getD 7 [])[i % 16]? = none := List.getElem?_eq_none (by show 4 ≤ i % 16; omega)
    rw [List.getD_eq_getElem?_getD, e3]
    rfl
  · have e3 : tSh[i / 16]? = none := List.getElem?_eq_none (by show 8 ≤ i / 16; omega)
    rw [List.getD_eq_getElem?_getD (l := tSh), e3]
    rfl
theorem hx_bc : eX h_b h_c2 := by
  obtain ⟨m1, m2, m3, m4, m5⟩ := mk_all
  have u0 : pU (pAl h_b (.inl 9) 9) := h_bnin.2.al (fun ci q => by cases q; decide) (fun t nn q => by cases q)
  have e0 : eX h_b (pAl h_b (.inl 9) 9) := eX.al h_bnin.2
  have p1 := evM_pure _ _ _ _ _ _ _ m1 u0
  have u1 : pU (pAl h_c1 (.inl 10) 25) := p1.1.al (fun ci q => by cases q; decide) (fun t nn q => by cases q)
  have e1 : eX h_c1 (pAl h_c1 (.inl 10) 25) := eX.al p1.1
  have p2 := evM_pure _ _ _ _ _ _ _ m3 u1
  exact ((e0.tr p1.2.1).tr e1).tr p2.2.1
theorem rC_0 {a : Nat} (ha : a < 3) : rC a 0 = some (3 + a) := by
  unfold rC
  rw [(hx_bc a (Nat.lt_trans ha (by decide))).2.1]
  match a, ha with
  | 0, _ => rfl
  | 1, _ => rfl
  | 2, _ => rfl
  | a + 3, h => exact absurd h (by omega)
theorem mk_start0 {N : Nat} {xs : Nat → Int32} {h : pH} (m4 : h.1 = (116, 3331)) (hx : eX h_b h) (hu : pU h) (m5 : ∀ i, 10 ≤ i → i < 116 → h.2.1 i = sB i) (m6 : h.2.2.1 81 1 = some 0) : phi N xs h = mkH (N, xs, h.2.2.1) (uI h.2.2.2 9 0 0) := by
  refine Prod.ext m4 (Prod.ext (funext fun i => ?_) (Prod.ext (funext fun i => funext fun q => ?_) (funext fun i => ?_)))
  · show va_up h.2.1 9 (.inr (0, N)) i = va_up sB 9 (.inr (0, N)) i
    by_cases hi : i = 9
    · subst hi; rw [up_s, up_s]
    · rw [up_n hi, up_n hi]
      by_cases h10 : i < 10
      · rw [(hx i h10).1]
        show (if i = 9 then Sum.inr (9, 0) else exS 0 i) = _
        rw [if_neg hi]
        match i, h10, hi with
        | 0, _, _ => rfl
        | 1, _, _ => rfl
        | 2, _, _ => rfl
        | 3, _, _ => rfl
        | 4, _, _ => rfl
        | 5, _, _ => rfl
        | 6, _, _ => rfl
        | 7, _, _ => rfl
        | 8, _, _ => rfl
        | 9, _, h => exact absurd rfl h
        | j + 10, h, _ => exact absurd h (by omega)
      · by_cases h116 : i < 116
        · exact m5 i (by omega) h116
        · rw [sB_hi (by omega)]
          exact hu.2.1 i (by rw [m4]; show 116 ≤ i; omega)
  · show h.2.2.1 i q = uR h.2.2.1 81 1 (some (uI h.2.2.2 9 0 0 9 0).toNatClampNeg) i q
    have e9 : uI h.2.2.2 9 0 0 9 0 = 0 := by
      unfold uI
      rw [up_s, pk_us]
    rw [e9]
    unfold uR
    by_cases hi : i = 81
    · subst hi
      rw [up_s]
      by_cases hq : q = 1
      · subst hq
        rw [up_s]
        exact m6
      · rw [up_n hq]
    · rw [up_n hi]
  · show va_up h.2.2.2 9 xs i = if i < 10 then exI xs i else uI h.2.2.2 9 0 0 i
    by_cases hi : i = 9
    · subst hi; rw [up_s]; rfl
    · rw [up_n hi]
      by_cases h10 : i < 10
      · rw [if_pos h10, (hx i h10).2.2]
        match i, h10, hi with
        | 0, _, _ => rfl
        | 1, _, _ => rfl
        | 2, _, _ => rfl
        | 3, _, _ => rfl
        | 4, _, _ => rfl
        | 5, _, _ => rfl
        | 6, _, _ => rfl
        | 7, _, _ => rfl
        | 8, _, _ => rfl
        | 9, _, h => exact absurd rfl h
        | j + 10, h, _ => exact absurd h (by omega)
      · rw [if_neg h10]
        unfold uI
        rw [up_n hi]
theorem pU_c2 : pU h_c2 := by
  obtain ⟨m1, m2, m3, m4, m5⟩ := mk_all
  have u0 : pU (pAl h_b (.inl 9) 9) := h_bnin.2.al (fun ci q => by cases q; decide) (fun t nn q => by cases q)
  have p1 := evM_pure _ _ _ _ _ _ _ m1 u0
  have u1 : pU (pAl h_c1 (.inl 10) 25) := p1.1.al (fun ci q => by cases q; decide) (fun t nn q => by cases q)
  exact (evM_pure _ _ _ _ _ _ _ m3 u1).1
/-- what holds behind the constructors -/
theorem mk_start : ∃ h : pH, evM 8 3000 kPM [.ref 101] (pAl h_c1 (.inl 10) 25) = some (none, h) ∧ (∀ (N : Nat) (xs : Nat → Int32), phi N xs h = mkH (N, xs, h.2.2.1) (uI h.2.2.2 9 0 0) ∧ oE (N, xs, h.2.2.1)) ∧ ∀ i q, 10 ≤ i → i < 116 → q < szB i → h.2.2.2 i q = iB i q := by
  obtain ⟨m1, m2, m3, m4, m5⟩ := mk_all
  have hx := hx_bc
  have hu := pU_c2
  have hr : ∀ i q, 10 ≤ i → i < 116 → q < 30 → h_c2.2.2.1 i q = rB i q := fun i q h1 h2 h3 => rC_at h1 h2 h3
  have h0 : ∀ a, a < 3 → h_c2.2.2.1 a 0 = some (3 + a) := fun a ha => rC_0 ha
  generalize h_c2 = h at *
  refine ⟨h, m3, fun N xs => ⟨mk_start0 m4 hx hu (fun i h1 h2 => ?_) (hr 81 1 (by decide) (by decide) (by decide)), hr, h0⟩, fun i q h1 h2 hq => ?_⟩
  · have := (m5 (i - 10) (by omega)).1
    rw [show 10 + (i - 10) = i by omega] at this
    exact this
  · have := (m5 (i - 10) (by omega)).2.2 q (by rw [show 10 + (i - 10) = i by omega]; exact hq)
    rw [show 10 + (i - 10) = i by omega] at this
    exact this
