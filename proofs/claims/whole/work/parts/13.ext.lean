/-! what lies in the heap at the law's entry -/
def tAb : List Int32 := [(-1), 0, 0, 0, 1, 2, 3]
def tWy : List Int32 := [1, 1, 2, 6, 24, 120, 720, 5040]
def tBo : List Int32 := [10, 11, 12, 13, 0, 20, 0, 0, 30, 0, 0, 0, 0, 0, 40, 0, 0, 50, 0, 0, 0, 0, 0, 60, 0, 0, 70, 71]
def tC1 : List Int32 := [99, 108, 109]
def tC2 : List Int32 := [103, 104, 114]
/-- what the cells that were there before hold; the script is xs -/
def exI (xs : Nat → Int32) (i j : Nat) : Int32 := match i with
  | 4 => tC1.getD j 0
  | 5 => tC2.getD j 0
  | 6 => tAb.getD j 0
  | 7 => tWy.getD j 0
  | 8 => tBo.getD j 0
  | 9 => xs j
  | _ => 0
def exR (i k : Nat) : Option Nat := match i, k with
  | 0, 0 => some 3
  | 1, 0 => some 4
  | 2, 0 => some 5
  | _, _ => none
def exS (n i : Nat) : pSh := match i with
  | 0 => .inl 11
  | 1 => .inl 11
  | 2 => .inl 11
  | 3 => .inr (1, 0)
  | 4 => .inr (1, 3)
  | 5 => .inr (1, 3)
  | 6 => .inr (0, 7)
  | 7 => .inr (0, 8)
  | 8 => .inr (0, 28)
  | 9 => .inr (0, n)
  | _ => .inr (9, 0)
def h_0 (n : Nat) (xs : Nat → Int32) : pH := ((10, 0), exS n, exR, exI xs)
theorem h_0u {n : Nat} {xs : Nat → Int32} : pU (h_0 n xs) := by
  refine ⟨Nat.le_refl 10, fun i hi => ?_, fun i hi ci hs => ?_, fun i hi t nn hs => ?_⟩
  · have hi : 10 ≤ i := hi
    obtain ⟨j, rfl⟩ : ∃ j, i = j + 10 := ⟨i - 10, by omega⟩
    rfl
  · have hi : 10 ≤ i := hi
    obtain ⟨j, rfl⟩ : ∃ j, i = j + 10 := ⟨i - 10, by omega⟩
    cases hs
  · have hi : 10 ≤ i := hi
    obtain ⟨j, rfl⟩ : ∃ j, i = j + 10 := ⟨i - 10, by omega⟩
    cases hs
    decide
/-- the texts' entries -/
def tmK : Nat → Nat
  | 0 => 15
  | 1 => 29
  | _ => 31
section EXT
variable {s : State} {b L : Nat} {xs : Nat → Int32}
theorem ex_K (hts : ∀ w ∈ lw_tbl, w.before #[Value.ref b] s = true) : ∃ (dC : Nat → ClassId) (dI : Nat → Nat → Nat) (cA : Nat → ClassId), ∀ xa base, va_K (aG (dC, dI, cA, xa, base)) vwCl (aT (dC, dI, cA, xa, base)) s := by
  have htg : ∀ w ∈ gT, w.before #[Value.ref b] s = true := fun w hw => hts w (gT_in w hw)
  have h0 : ∀ ci : Nat, ∃ q : ClassId × (Nat → Nat), ci < 11 → u_Kn s (cNm ci) (cTt ci) (cNf ci) q.1 q.2 := by
    intro ci
    by_cases hc : ci < 11
    · obtain ⟨c, iS, h⟩ := u_known (n := cNf ci) htg (us_ok hc) (htg _ (ins_in _ hc))
      exact ⟨(c, iS), fun _ => h⟩
    · exact ⟨(default, fun _ => 0), fun h => absurd h hc⟩
  obtain ⟨f, hf⟩ := Classical.axiomOfChoice h0
  have a0 : ∃ cA : ClassId, ArrOfT s cA .int ∧ va_RA s cA .int := by
    obtain ⟨cA, kA, comp, h1, h2, h3⟩ := Cond.arrayClass_spec (htg _ w_arrI)
    exact ⟨cA, fun n z => ⟨fun k h => (by cases h), kA, h2, comp, h3⟩, h1⟩
  have aC : ∀ C : String, (Cond.arrayOver (.object C)).before #[Value.ref b] s = true → ∃ cA : ClassId, ArrOfT s cA (.object C) ∧ va_RA s cA (.object C) := by
    intro C hC
    obtain ⟨comp, cA, kA, h1, h2, h3, h4, h5⟩ := Cond.arrayOver_spec hC
    exact ⟨cA, fun n z => ⟨fun k h => (by cases h), kA, h3, comp, h4⟩, kA, comp, h3, h4, h1, h5⟩
  obtain ⟨c0, g0⟩ := a0
  obtain ⟨c2, g2⟩ := aC RX5 (hts _ (List.mem_of_getElem? (i := 110) (by decide +kernel)))
  obtain ⟨c3, g3⟩ := aC RX6 (hts _ (List.mem_of_getElem? (i := 340) (by decide +kernel)))
  refine ⟨fun c => (f c).1, fun c => (f c).2, fun t => if t = 0 then c0 else if t = 2 then c2 else c3, fun xa base => ⟨fun c q hq => ?_, fun k q hq => ?_⟩⟩
  · have hc : c < 11 := (List.getElem?_eq_some_iff.mp hq).1
    cases (cl_at hc).symm.trans hq
    exact hf c hc
  · match k, hq with
    | 0, hq => cases hq; exact g0
    | 1, hq => cases hq; exact g2
    | 2, hq => cases hq; exact g3
    | k + 3, hq => simp [aT] at hq
theorem ex_ab (hs : ∀ w ∈ flatC (Jvm.Cond.and given_1 narrow_1), w.before #[Value.ref b] s = true) (hts : ∀ w ∈ lw_tbl, w.before #[Value.ref b] s = true) {A : Nat → Prop} (hA : ∀ a : Nat, a < s.heap.size → ¬ A a) : ∃ t : Nat, va_Z "PlayedBack" "ABOVE" "[I" (.ref t) A s s.heap ∧ va_T .int t 7 (fun j => .int (exI xs 6 j)) A s s.heap := by
  have hel : ∀ j : Nat, j < 7 → (Term.elem (.static "PlayedBack" "ABOVE" "[I") (.int (Int32.ofNat j))).eval #[Value.ref b] s none [] s = some (.int (exI xs 6 j)) := by
    intro j hj
    match j, hj with
    | 0, _ => exact va_eqt (t := .elem (.static "PlayedBack" "ABOVE" "[I") (.int 0)) (z := (-1)) (hs _ (by decide +kernel))
    | 1, _ => exact va_eqt (t := .elem (.static "PlayedBack" "ABOVE" "[I") (.int 1)) (z := 0) (hs _ (by decide +kernel))
    | 2, _ => exact va_eqt (t := .elem (.static "PlayedBack" "ABOVE" "[I") (.int 2)) (z := 0) (hs _ (by decide +kernel))
    | 3, _ => exact va_eqt (t := .elem (.static "PlayedBack" "ABOVE" "[I") (.int 3)) (z := 0) (hs _ (by decide +kernel))
    | 4, _ => exact va_eqt (t := .elem (.static "PlayedBack" "ABOVE" "[I") (.int 4)) (z := 1) (hs _ (by decide +kernel))
    | 5, _ => exact va_eqt (t := .elem (.static "PlayedBack" "ABOVE" "[I") (.int 5)) (z := 2) (hs _ (by decide +kernel))
    | 6, _ => exact va_eqt (t := .elem (.static "PlayedBack" "ABOVE" "[I") (.int 6)) (z := 3) (hs _ (by decide +kernel))
    | j + 7, h => exact absurd h (by omega)
  obtain ⟨t, ht, hT⟩ := va_Tof (tm := .static "PlayedBack" "ABOVE" "[I") (N := 7) (ty := .int) (f := fun j => .int (exI xs 6 j)) (A := A) (by decide) (hs _ (by decide +kernel)) (va_eqt (z := 7) (hs _ (by decide +kernel))) hel hA
  exact ⟨t, va_Zof (hts _ (List.mem_of_getElem? (i := 481) (by decide +kernel))) (hts _ (List.mem_of_getElem? (i := 76) (by decide +kernel))) ht hA, hT⟩
theorem ex_wy (hs : ∀ w ∈ flatC (Jvm.Cond.and given_1 narrow_1), w.before #[Value.ref b] s = true) (hts : ∀ w ∈ lw_tbl, w.before #[Value.ref b] s = true) {A : Nat → Prop} (hA : ∀ a : Nat, a < s.heap.size → ¬ A a) : ∃ t : Nat, va_Z "PlayedBack$Choices" "WAYS" "[I" (.ref t) A s s.heap ∧ va_T .int t 8 (fun j => .int (exI xs 7 j)) A s s.heap := by
  have hel : ∀ j : Nat, j < 8 → (Term.elem (.static "PlayedBack$Choices" "WAYS" "[I") (.int (Int32.ofNat j))).eval #[Value.ref b] s none [] s = some (.int (exI xs 7 j)) := by
    intro j hj
    match j, hj with
    | 0, _ => exact va_eqt (t := .elem (.static "PlayedBack$Choices" "WAYS" "[I") (.int 0)) (z := 1) (hs _ (by decide +kernel))
    | 1, _ => exact va_eqt (t := .elem (.static "PlayedBack$Choices" "WAYS" "[I") (.int 1)) (z := 1) (hs _ (by decide +kernel))
    | 2, _ => exact va_eqt (t := .elem (.static "PlayedBack$Choices" "WAYS" "[I") (.int 2)) (z := 2) (hs _ (by decide +kernel))
    | 3, _ => exact va_eqt (t := .elem (.static "PlayedBack$Choices" "WAYS" "[I") (.int 3)) (z := 6) (hs _ (by decide +kernel))
    | 4, _ => exact va_eqt (t := .elem (.static "PlayedBack$Choices" "WAYS" "[I") (.int 4)) (z := 24) (hs _ (by decide +kernel))
    | 5, _ => exact va_eqt (t := .elem (.static "PlayedBack$Choices" "WAYS" "[I") (.int 5)) (z := 120) (hs _ (by decide +kernel))
    | 6, _ => exact va_eqt (t := .elem (.static "PlayedBack$Choices" "WAYS" "[I") (.int 6)) (z := 720) (hs _ (by decide +kernel))
    | 7, _ => exact va_eqt (t := .elem (.static "PlayedBack$Choices" "WAYS" "[I") (.int 7)) (z := 5040) (hs _ (by decide +kernel))
    | j + 8, h => exact absurd h (by omega)
  obtain ⟨t, ht, hT⟩ := va_Tof (tm := .static "PlayedBack$Choices" "WAYS" "[I") (N := 8) (ty := .int) (f := fun j => .int (exI xs 7 j)) (A := A) (by decide) (hs _ (by decide +kernel)) (va_eqt (z := 8) (hs _ (by decide +kernel))) hel hA
  exact ⟨t, va_Zof (hts _ (List.mem_of_getElem? (i := 891) (by decide +kernel))) (hts _ (List.mem_of_getElem? (i := 82) (by decide +kernel))) ht hA, hT⟩
theorem ex_bo (hs : ∀ w ∈ flatC (Jvm.Cond.and given_1 narrow_1), w.before #[Value.ref b] s = true) (hts : ∀ w ∈ lw_tbl, w.before #[Value.ref b] s = true) {A : Nat → Prop} (hA : ∀ a : Nat, a < s.heap.size → ¬ A a) : ∃ t : Nat, va_Z "PlayedBack$Voices" "BODIES" "[I" (.ref t) A s s.heap ∧ va_T .int t 28 (fun j => .int (exI xs 8 j)) A s s.heap := by
  have hel : ∀ j : Nat, j < 28 → (Term.elem (.static "PlayedBack$Voices" "BODIES" "[I") (.int (Int32.ofNat j))).eval #[Value.ref b] s none [] s = some (.int (exI xs 8 j)) := by
    intro j hj
    match j, hj with
    | 0, _ => exact va_eqt (t := .elem (.static "PlayedBack$Voices" "BODIES" "[I") (.int 0)) (z := 10) (hs _ (by decide +kernel))
    | 1, _ => exact va_eqt (t := .elem (.static "PlayedBack$Voices" "BODIES" "[I") (.int 1)) (z := 11) (hs _ (by decide +kernel))
    | 2, _ => exact va_eqt (t := .elem (.static "PlayedBack$Voices" "BODIES" "[I") (.int 2)) (z := 12) (hs _ (by decide +kernel))
    | 3, _ => exact va_eqt (t := .elem (.static "PlayedBack$Voices" "BODIES" "[I") (.int 3)) (z := 13) (hs _ (by decide +kernel))
    | 4, _ => exact va_eqt (t := .elem (.static "PlayedBack$Voices" "BODIES" "[I") (.int 4)) (z := 0) (hs _ (by decide +kernel))
    | 5, _ => exact va_eqt (t := .elem (.static "PlayedBack$Voices" "BODIES" "[I") (.int 5)) (z := 20) (hs _ (by decide +kernel))
    | 6, _ => exact va_eqt (t := .elem (.static "PlayedBack$Voices" "BODIES" "[I") (.int 6)) (z := 0) (hs _ (by decide +kernel))
    | 7, _ => exact va_eqt (t := .elem (.static "PlayedBack$Voices" "BODIES" "[I") (.int 7)) (z := 0) (hs _ (by decide +kernel))
    | 8, _ => exact va_eqt (t := .elem (.static "PlayedBack$Voices" "BODIES" "[I") (.int 8)) (z := 30) (hs _ (by decide +kernel))
    | 9, _ => exact va_eqt (t := .elem (.static "PlayedBack$Voices" "BODIES" "[I") (.int 9)) (z := 0) (hs _ (by decide +kernel))
    | 10, _ => exact va_eqt (t := .elem (.static "PlayedBack$Voices" "BODIES" "[I") (.int 10)) (z := 0) (hs _ (by decide +kernel))
    | 11, _ => exact va_eqt (t := .elem (.static "PlayedBack$Voices" "BODIES" "[I") (.int 11)) (z := 0) (hs _ (by decide +kernel))
    | 12, _ => exact va_eqt (t := .elem (.static "PlayedBack$Voices" "BODIES" "[I") (.int 12)) (z := 0) (hs _ (by decide +kernel))
    | 13, _ => exact va_eqt (t := .elem (.static "PlayedBack$Voices" "BODIES" "[I") (.int 13)) (z := 0) (hs _ (by decide +kernel))
    | 14, _ => exact va_eqt (t := .elem (.static "PlayedBack$Voices" "BODIES" "[I") (.int 14)) (z := 40) (hs _ (by decide +kernel))
    | 15, _ => exact va_eqt (t := .elem (.static "PlayedBack$Voices" "BODIES" "[I") (.int 15)) (z := 0) (hs _ (by decide +kernel))
    | 16, _ => exact va_eqt (t := .elem (.static "PlayedBack$Voices" "BODIES" "[I") (.int 16)) (z := 0) (hs _ (by decide +kernel))
    | 17, _ => exact va_eqt (t := .elem (.static "PlayedBack$Voices" "BODIES" "[I") (.int 17)) (z := 50) (hs _ (by decide +kernel))
    | 18, _ => exact va_eqt (t := .elem (.static "PlayedBack$Voices" "BODIES" "[I") (.int 18)) (z := 0) (hs _ (by decide +kernel))
    | 19, _ => exact va_eqt (t := .elem (.static "PlayedBack$Voices" "BODIES" "[I") (.int 19)) (z := 0) (hs _ (by decide +kernel))
    | 20, _ => exact va_eqt (t := .elem (.static "PlayedBack$Voices" "BODIES" "[I") (.int 20)) (z := 0) (hs _ (by decide +kernel))
    | 21, _ => exact va_eqt (t := .elem (.static "PlayedBack$Voices" "BODIES" "[I") (.int 21)) (z := 0) (hs _ (by decide +kernel))
    | 22, _ => exact va_eqt (t := .elem (.static "PlayedBack$Voices" "BODIES" "[I") (.int 22)) (z := 0) (hs _ (by decide +kernel))
    | 23, _ => exact va_eqt (t := .elem (.static "PlayedBack$Voices" "BODIES" "[I") (.int 23)) (z := 60) (hs _ (by decide +kernel))
    | 24, _ => exact va_eqt (t := .elem (.static "PlayedBack$Voices" "BODIES" "[I") (.int 24)) (z := 0) (hs _ (by decide +kernel))
    | 25, _ => exact va_eqt (t := .elem (.static "PlayedBack$Voices" "BODIES" "[I") (.int 25)) (z := 0) (hs _ (by decide +kernel))
    | 26, _ => exact va_eqt (t := .elem (.static "PlayedBack$Voices" "BODIES" "[I") (.int 26)) (z := 70) (hs _ (by decide +kernel))
    | 27, _ => exact va_eqt (t := .elem (.static "PlayedBack$Voices" "BODIES" "[I") (.int 27)) (z := 71) (hs _ (by decide +kernel))
    | j + 28, h => exact absurd h (by omega)
  obtain ⟨t, ht, hT⟩ := va_Tof (tm := .static "PlayedBack$Voices" "BODIES" "[I") (N := 28) (ty := .int) (f := fun j => .int (exI xs 8 j)) (A := A) (by decide) (hs _ (by decide +kernel)) (va_eqt (z := 28) (hs _ (by decide +kernel))) hel hA
  exact ⟨t, va_Zof (hts _ (List.mem_of_getElem? (i := 1011) (by decide +kernel))) (hts _ (List.mem_of_getElem? (i := 85) (by decide +kernel))) ht hA, hT⟩
theorem ex_st (hs : ∀ w ∈ flatC (Jvm.Cond.and given_1 narrow_1), w.before #[Value.ref b] s = true) {A : Nat → Prop} (hA : ∀ a : Nat, a < s.heap.size → ¬ A a) : ∃ adK adV : Nat → Nat, vk_S 3 [0, 3, 3] [[], tC1, tC2] adK adV A s s.heap ∧ ∀ i : Nat, i < 3 → (Term.string "PlayedBack$Reader" (tmK i)).eval #[Value.ref b] s none [] s = some (.ref (adK i)) := by
  refine vk_Sof (tm := fun i => Term.string "PlayedBack$Reader" (tmK i)) (fun i hi => ?_) (fun i hi => ?_) (fun i hi => ?_) (fun i hi => ?_) (fun i hi => ?_) (fun i hi j hj => ?_) (fun i j hi hj hne => ?_) hA
  · match i, hi with
    | 0, _ => decide
    | 1, _ => decide
    | 2, _ => decide
    | i + 3, h => exact absurd h (by omega)
  · match i, hi with
    | 0, _ => exact hs (Cond.exactly (.string "PlayedBack$Reader" 15) "java/lang/String") (by decide +kernel)
    | 1, _ => exact hs (Cond.exactly (.string "PlayedBack$Reader" 29) "java/lang/String") (by decide +kernel)
    | 2, _ => exact hs (Cond.exactly (.string "PlayedBack$Reader" 31) "java/lang/String") (by decide +kernel)
    | i + 3, h => exact absurd h (by omega)
  · match i, hi with
    | 0, _ => exact hs (Cond.eq (.field (.string "PlayedBack$Reader" 15) "java/lang/String" "coder" "B") (.int 0)) (by decide +kernel)
    | 1, _ => exact hs (Cond.eq (.field (.string "PlayedBack$Reader" 29) "java/lang/String" "coder" "B") (.int 0)) (by decide +kernel)
    | 2, _ => exact hs (Cond.eq (.field (.string "PlayedBack$Reader" 31) "java/lang/String" "coder" "B") (.int 0)) (by decide +kernel)
    | i + 3, h => exact absurd h (by omega)
  · match i, hi with
    | 0, _ => exact hs (Cond.arrayOf (.field (.string "PlayedBack$Reader" 15) "java/lang/String" "value" "[B") .byte) (by decide +kernel)
    | 1, _ => exact hs (Cond.arrayOf (.field (.string "PlayedBack$Reader" 29) "java/lang/String" "value" "[B") .byte) (by decide +kernel)
    | 2, _ => exact hs (Cond.arrayOf (.field (.string "PlayedBack$Reader" 31) "java/lang/String" "value" "[B") .byte) (by decide +kernel)
    | i + 3, h => exact absurd h (by omega)
  · match i, hi with
    | 0, _ => exact hs (Cond.eq (.length (.field (.string "PlayedBack$Reader" 15) "java/lang/String" "value" "[B")) (.int 0)) (by decide +kernel)
    | 1, _ => exact hs (Cond.eq (.length (.field (.string "PlayedBack$Reader" 29) "java/lang/String" "value" "[B")) (.int 3)) (by decide +kernel)
    | 2, _ => exact hs (Cond.eq (.length (.field (.string "PlayedBack$Reader" 31) "java/lang/String" "value" "[B")) (.int 3)) (by decide +kernel)
    | i + 3, h => exact absurd h (by omega)
  · match i, hi, j, hj with
    | 0, _, j, hj => exact absurd hj (Nat.not_lt_zero j)
    | 1, _, 0, _ => exact hs (Cond.eq (.elem (.field (.string "PlayedBack$Reader" 29) "java/lang/String" "value" "[B") (.int 0)) (.int 99)) (by decide +kernel)
    | 1, _, 1, _ => exact hs (Cond.eq (.elem (.field (.string "PlayedBack$Reader" 29) "java/lang/String" "value" "[B") (.int 1)) (.int 108)) (by decide +kernel)
    | 1, _, 2, _ => exact hs (Cond.eq (.elem (.field (.string "PlayedBack$Reader" 29) "java/lang/String" "value" "[B") (.int 2)) (.int 109)) (by decide +kernel)
    | 1, _, j + 3, h => exact absurd h (Nat.not_lt.mpr (Nat.le_add_left 3 j))
    | 2, _, 0, _ => exact hs (Cond.eq (.elem (.field (.string "PlayedBack$Reader" 31) "java/lang/String" "value" "[B") (.int 0)) (.int 103)) (by decide +kernel)
    | 2, _, 1, _ => exact hs (Cond.eq (.elem (.field (.string "PlayedBack$Reader" 31) "java/lang/String" "value" "[B") (.int 1)) (.int 104)) (by decide +kernel)
    | 2, _, 2, _ => exact hs (Cond.eq (.elem (.field (.string "PlayedBack$Reader" 31) "java/lang/String" "value" "[B") (.int 2)) (.int 114)) (by decide +kernel)
    | 2, _, j + 3, h => exact absurd h (Nat.not_lt.mpr (Nat.le_add_left 3 j))
    | i + 3, h, _, _ => exact absurd h (by omega)
  · match i, hi, j, hj with
    | 0, _, 0, _ => exact absurd rfl hne
    | 0, _, 1, _ => exact Or.inl (hs (Cond.not (Cond.eq (.string "PlayedBack$Reader" 15) (.string "PlayedBack$Reader" 29))) (by decide +kernel))
    | 0, _, 2, _ => exact Or.inl (hs (Cond.not (Cond.eq (.string "PlayedBack$Reader" 15) (.string "PlayedBack$Reader" 31))) (by decide +kernel))
    | 1, _, 0, _ => exact Or.inr (hs (Cond.not (Cond.eq (.string "PlayedBack$Reader" 15) (.string "PlayedBack$Reader" 29))) (by decide +kernel))
    | 1, _, 1, _ => exact absurd rfl hne
    | 1, _, 2, _ => exact Or.inl (hs (Cond.not (Cond.eq (.string "PlayedBack$Reader" 29) (.string "PlayedBack$Reader" 31))) (by decide +kernel))
    | 2, _, 0, _ => exact Or.inr (hs (Cond.not (Cond.eq (.string "PlayedBack$Reader" 15) (.string "PlayedBack$Reader" 31))) (by decide +kernel))
    | 2, _, 1, _ => exact Or.inr (hs (Cond.not (Cond.eq (.string "PlayedBack$Reader" 29) (.string "PlayedBack$Reader" 31))) (by decide +kernel))
    | 2, _, 2, _ => exact absurd rfl hne
    | i + 3, h, _, _ => exact absurd h (by omega)
    | 0, _, j + 3, h => exact absurd h (by omega)
    | 1, _, j + 3, h => exact absurd h (by omega)
    | 2, _, j + 3, h => exact absurd h (by omega)
/-- all of it -/
theorem ex_all (hts : ∀ w ∈ lw_tbl, w.before #[Value.ref b] s = true) (hXX : va_X b L xs s s.heap) (hbl : b < s.heap.size) (hgv : (Jvm.Cond.and given_1 narrow_1).before #[Value.ref b] s = true) :
    ∃ X : pX, X.2.2.2.1 9 = b ∧ X.2.2.2.2 = s.heap.size ∧ va_K (aG X) vwCl (aT X) s ∧ aX X (h_0 L xs) s s.heap := by
  have hs := flat_of_before _ hgv
  obtain ⟨dC, dI, cA, hK⟩ := ex_K hts
  have hA : ∀ a : Nat, a < s.heap.size → ¬ (fun q : Nat => s.heap.size ≤ q) a := fun a h => Nat.not_le.mpr h
  obtain ⟨t6, z6, a6⟩ := ex_ab (xs := xs) hs hts hA
  obtain ⟨t7, z7, a7⟩ := ex_wy (xs := xs) hs hts hA
  obtain ⟨t8, z8, a8⟩ := ex_bo (xs := xs) hs hts hA
  obtain ⟨adK, adV, hS, hev⟩ := ex_st hs hA
  have z9 : va_Z "java/lang/String" "COMPACT_STRINGS" "Z" (.int 1) (fun q : Nat => s.heap.size ≤ q) s s.heap := va_Zof (hts _ (List.mem_of_getElem? (i := 695) (by decide +kernel))) (hts _ (List.mem_of_getElem? (i := 89) (by decide +kernel))) (va_eqi (hs _ (by decide +kernel))) hA
  have a9 : va_T .int b L (fun j => .int (exI xs 9 j)) (fun q : Nat => s.heap.size ≤ q) s s.heap := by
    obtain ⟨scr, g1, g2, g3, g4, g5⟩ := hXX
    exact ⟨scr, g1, g2, g3, by omega, by rw [g4], g5, hA b hbl⟩
  refine ⟨(dC, dI, cA, fun i => if i < 3 then adK i else if i < 6 then adV (i - 3) else if i = 6 then t6 else if i = 7 then t7 else if i = 8 then t8 else b, s.heap.size), rfl, rfl, hK _ _, ?_⟩
  refine ⟨fun i hi => ?_, fun i hi hj => ?_, fun j hj => ?_, z9, fun q hq => ?_, fun q hq => ?_, ?_, ?_⟩
  · match i, hi with
    | 0, hi => exact ⟨rfl, rfl, rfl, (hS.1 0 hi).1, (hS.1 0 hi).2.1, (hS.1 0 hi).2.2.1⟩
    | 1, hi => exact ⟨rfl, rfl, rfl, (hS.1 1 hi).1, (hS.1 1 hi).2.1, (hS.1 1 hi).2.2.1⟩
    | 2, hi => exact ⟨rfl, rfl, rfl, (hS.1 2 hi).1, (hS.1 2 hi).2.1, (hS.1 2 hi).2.2.1⟩
    | i + 3, h => exact absurd h (by omega)
  · have hj : i < 10 := hj
    match i, hi, hj with
    | 3, _, _ => exact ⟨1, 0, rfl, Or.inl ⟨rfl, (hS.1 0 (by decide)).2.2.2⟩⟩
    | 4, _, _ => exact ⟨1, 3, rfl, Or.inl ⟨rfl, (hS.1 1 (by decide)).2.2.2⟩⟩
    | 5, _, _ => exact ⟨1, 3, rfl, Or.inl ⟨rfl, (hS.1 2 (by decide)).2.2.2⟩⟩
    | 6, _, _ => exact ⟨0, 7, rfl, Or.inr ⟨rfl, a6⟩⟩
    | 7, _, _ => exact ⟨0, 8, rfl, Or.inr ⟨rfl, a7⟩⟩
    | 8, _, _ => exact ⟨0, 28, rfl, Or.inr ⟨rfl, a8⟩⟩
    | 9, _, _ => exact ⟨0, L, rfl, Or.inr ⟨rfl, a9⟩⟩
    | i + 10, _, h => exact absurd h (by omega)
    | 0, h, _ => exact absurd h (by omega)
    | 1, h, _ => exact absurd h (by omega)
    | 2, h, _ => exact absurd h (by omega)
  · match j, hj with
    | 0, _ => exact z6
    | 1, _ => exact z7
    | 2, _ => exact z8
    | j + 3, h => exact absurd h (by omega)
  · have hw := hts _ (SR_in q hq)
    have hall : ∀ q ∈ SRk, q.1 = 3 ∧ q.2.2 < 3 ∧ q.2.1 = tmK q.2.2 := by decide +kernel
    obtain ⟨k1, k2, k3⟩ := hall q hq
    have he := hev q.2.2 k2
    rw [← k3] at he
    have e2 : cNm q.1 = "PlayedBack$Reader" := by rw [k1]; rfl
    rw [← e2] at he
    refine vk_R.of hw ?_
    rw [he]
    show some (Value.ref (adK q.2.2)) = some (Value.ref (if q.2.2 < 3 then adK q.2.2 else _))
    rw [if_pos k2]
  · exact va_Nw.of rfl (hts _ (NL_in q hq))
  · exact va_AO.of (A := #[Value.ref b]) (hts _ (List.mem_of_getElem? (i := 110) (by decide +kernel)))
  · exact va_AO.of (A := #[Value.ref b]) (hts _ (List.mem_of_getElem? (i := 340) (by decide +kernel)))
end EXT
