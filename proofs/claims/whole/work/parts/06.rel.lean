/-! how the abstract machine's cells lie in the heap -/
/-- class numbers, slots, array classes, addresses of what was there before, where the made cells begin -/
abbrev pX : Type := (Nat → ClassId) × (Nat → Nat → Nat) × (Nat → ClassId) × (Nat → Nat) × Nat
def aD (X : pX) (i : Nat) : Nat := if i < nX then X.2.2.2.1 i else X.2.2.2.2 + (i - nX)
def aV (X : pX) : Value → Value
  | .ref a => .ref (aD X a)
  | v => v
def aE (X : pX) (h : pH) (id : Nat) : va_E := match h.2.1 id with
  | .inl ci => .inr (ci, (List.range (cNf ci)).map fun k => aV X (fv h id ci k))
  | .inr (t, n) => if t = 0 then .inl (X.2.2.1 0, n, .inl (h.2.2.2 id)) else .inl (X.2.2.1 t, n, .inr (.inr (.inr (.inr fun j => (h.2.2.1 id j).map (aD X)))))
def aW (X : pX) (h : pH) : va_W := (List.range (h.1.1 - nX)).map fun j => (aD X (nX + j), aE X h (nX + j))
def aT (X : pX) : List (ClassId × FieldType) := [(X.2.2.1 0, .int), (X.2.2.1 2, .object RX5), (X.2.2.1 3, .object RX6)]
abbrev aG (X : pX) : va_G := (X.1, X.2.1)
def aA (X : pX) : Nat → Prop := fun q => X.2.2.2.2 ≤ q
/-- what was there before, and stays -/
def aX (X : pX) (h : pH) (U : State) (H : Heap) : Prop :=
  (∀ i, i < 3 → h.2.1 i = .inl 11 ∧ h.2.2.2 i 1 = 0 ∧ h.2.2.1 i 0 = some (3 + i) ∧ va_O "java/lang/String" (X.2.2.2.1 i) (aA X) U H ∧ va_OF "java/lang/String" "coder" "B" (.int 0) (X.2.2.2.1 i) (aA X) U H ∧ va_OF "java/lang/String" "value" "[B" (.ref (X.2.2.2.1 (3 + i))) (X.2.2.2.1 i) (aA X) U H) ∧
  (∀ i, 3 ≤ i → i < nX → ∃ (t n : Nat), h.2.1 i = .inr (t, n) ∧ ((t = 1 ∧ va_T .byte (X.2.2.2.1 i) n (fun j => .int (h.2.2.2 i j)) (aA X) U H) ∨ (t = 0 ∧ va_T .int (X.2.2.2.1 i) n (fun j => .int (h.2.2.2 i j)) (aA X) U H))) ∧
  (∀ j, j < 3 → va_Z (sTa j).1 (sTa j).2.1 (sTa j).2.2 (.ref (X.2.2.2.1 (6 + j))) (aA X) U H) ∧
  va_Z (sTa 3).1 (sTa 3).2.1 (sTa 3).2.2 (.int 1) (aA X) U H ∧
  (∀ q ∈ SRk, vk_R (cNm q.1) q.2.1 (sTx q.2.2) (X.2.2.2.1 q.2.2) U) ∧ (∀ q ∈ NLk, va_Nw (wNL q) U) ∧ va_AO RX5 U ∧ va_AO RX6 U
theorem aX.moved {X : pX} {h : pH} {s U : State} {H : Heap} (hW : s.WarmedH U.vm) (hx : aX X h s H) : aX X h U H := by
  obtain ⟨h1, h2, h3, h4, h5, h6, h7, h8⟩ := hx
  have hvm := hW.alike
  refine ⟨fun i hi => ?_, fun i hi hj => ?_, fun j hj => va_Z.moved hvm (h3 j hj), va_Z.moved hvm h4, fun q hq => vk_R.warm hW (h5 q hq), fun q hq => va_Nw.warmM hW (h6 q hq), va_AO.moved hvm h7, va_AO.moved hvm h8⟩
  · obtain ⟨a, b, c, d, e, f⟩ := h1 i hi
    exact ⟨a, b, c, va_O.moved hvm d, va_OF.moved hvm e, va_OF.moved hvm f⟩
  · obtain ⟨t, n, a, b⟩ := h2 i hi hj
    refine ⟨t, n, a, ?_⟩
    rcases b with ⟨b1, b2⟩ | ⟨b1, b2⟩
    · exact Or.inl ⟨b1, va_T.moved hvm b2⟩
    · exact Or.inr ⟨b1, va_T.moved hvm b2⟩
theorem aX.same {X : pX} {h : pH} {u U : State} {H : Heap} (hv : U.vm = u.vm) (hx : aX X h u H) : aX X h U H := by
  obtain ⟨h1, h2, h3, h4, h5, h6, h7, h8⟩ := hx
  have hvm : u.vm.Alike U.vm := by rw [hv]; exact Vm.Alike.refl _
  refine ⟨fun i hi => ?_, fun i hi hj => ?_, fun j hj => va_Z.moved hvm (h3 j hj), va_Z.moved hvm h4, fun q hq => vk_R.same hv (h5 q hq), fun q hq => va_Nw.same rfl hv.symm (h6 q hq), va_AO.moved hvm h7, va_AO.moved hvm h8⟩
  · obtain ⟨a, b, c, d, e, f⟩ := h1 i hi
    exact ⟨a, b, c, va_O.moved hvm d, va_OF.moved hvm e, va_OF.moved hvm f⟩
  · obtain ⟨t, n, a, b⟩ := h2 i hi hj
    refine ⟨t, n, a, ?_⟩
    rcases b with ⟨b1, b2⟩ | ⟨b1, b2⟩
    · exact Or.inl ⟨b1, va_T.moved hvm b2⟩
    · exact Or.inr ⟨b1, va_T.moved hvm b2⟩
theorem aX.kept {X : pX} {h : pH} {U : State} {H H1 : Heap} (hq : ∀ a : Nat, a < H.size → ¬ aA X a → H1[a]? = H[a]?) (hx : aX X h U H) : aX X h U H1 := by
  obtain ⟨h1, h2, h3, h4, h5, h6, h7, h8⟩ := hx
  refine ⟨fun i hi => ?_, fun i hi hj => ?_, fun j hj => va_Z.kept (h3 j hj) hq, va_Z.kept h4 hq, h5, h6, h7, h8⟩
  · obtain ⟨a, b, c, d, e, f⟩ := h1 i hi
    exact ⟨a, b, c, va_O.kept d hq, va_OF.kept e hq, va_OF.kept f hq⟩
  · obtain ⟨t, n, a, b⟩ := h2 i hi hj
    refine ⟨t, n, a, ?_⟩
    rcases b with ⟨b1, b2⟩ | ⟨b1, b2⟩
    · exact Or.inl ⟨b1, va_T.kept b2 hq⟩
    · exact Or.inr ⟨b1, va_T.kept b2 hq⟩
/-- two abstract heaps agree on what was there before -/
def eX (h h' : pH) : Prop := ∀ i, i < nX → h'.2.1 i = h.2.1 i ∧ h'.2.2.1 i = h.2.2.1 i ∧ h'.2.2.2 i = h.2.2.2 i
theorem eX.rf {h : pH} : eX h h := fun _ _ => ⟨rfl, rfl, rfl⟩
theorem eX.tr {a b c : pH} (h1 : eX a b) (h2 : eX b c) : eX a c := fun i hi => ⟨(h2 i hi).1.trans (h1 i hi).1, (h2 i hi).2.1.trans (h1 i hi).2.1, (h2 i hi).2.2.trans (h1 i hi).2.2⟩
theorem aX.eX {X : pX} {h h' : pH} {U : State} {H : Heap} (he : eX h h') (hx : aX X h U H) : aX X h' U H := by
  obtain ⟨h1, h2, h3, h4, h5, h6, h7, h8⟩ := hx
  refine ⟨fun i hi => ?_, fun i hi hj => ?_, h3, h4, h5, h6, h7, h8⟩
  · obtain ⟨e1, e2, e3⟩ := he i (Nat.lt_trans hi (by decide))
    rw [e1, e2, e3]
    exact h1 i hi
  · obtain ⟨e1, e2, e3⟩ := he i hj
    rw [e1, e3]
    exact h2 i hi hj
/-- the made cells' shapes -/
def pU (h : pH) : Prop := nX ≤ h.1.1 ∧ (∀ i, h.1.1 ≤ i → h.2.1 i = .inr (9, 0)) ∧ (∀ i, nX ≤ i → ∀ ci, h.2.1 i = .inl ci → ci < 11) ∧ ∀ i, nX ≤ i → ∀ t n, h.2.1 i = .inr (t, n) → t ≠ 1
theorem pU.lt {h : pH} (hu : pU h) {i : Nat} {s : pSh} (hs : h.2.1 i = s) (hn : s ≠ .inr (9, 0)) : i < h.1.1 := by
  rcases Nat.lt_or_ge i h.1.1 with q | q
  · exact q
  · exact absurd (hs.symm.trans (hu.2.1 i q)) hn
theorem aW_at {X : pX} {h : pH} {id : Nat} (h1 : nX ≤ id) (h2 : id < h.1.1) : (aW X h)[id - nX]? = some (aD X id, aE X h id) := by
  unfold aW
  rw [List.getElem?_map, List.getElem?_range (by omega)]
  show some (aD X (nX + (id - nX)), aE X h (nX + (id - nX))) = _
  rw [show nX + (id - nX) = id by omega]
theorem aW_get {X : pX} {h : pH} {k : Nat} {q : Nat × va_E} (hq : (aW X h)[k]? = some q) : k < h.1.1 - nX ∧ q = (aD X (nX + k), aE X h (nX + k)) := by
  have hl : k < (aW X h).length := (List.getElem?_eq_some_iff.mp hq).1
  have hl2 : k < h.1.1 - nX := by simpa [aW] using hl
  refine ⟨hl2, ?_⟩
  have h3 := aW_at (X := X) (h := h) (id := nX + k) (by omega) (by omega)
  rw [show nX + k - nX = k by omega, hq] at h3
  exact Option.some.inj h3
theorem aD_ge {X : pX} {i : Nat} (h : nX ≤ i) : aD X i = X.2.2.2.2 + (i - nX) := by
  unfold aD
  rw [if_neg (by omega)]
theorem aW_D {X : pX} {h : pH} : va_D (aA X) (aW X h) := by
  refine ⟨fun i j p q hp hq e => ?_, fun k q hq => ?_⟩
  · obtain ⟨h1, rfl⟩ := aW_get hp
    obtain ⟨h2, rfl⟩ := aW_get hq
    simp only at e
    rw [aD_ge (by omega), aD_ge (by omega)] at e
    omega
  · obtain ⟨h1, rfl⟩ := aW_get hq
    show X.2.2.2.2 ≤ aD X _
    rw [aD_ge (by omega)]
    omega
/-- one cell changes -/
theorem aW_set {X : pX} {h h' : pH} {id : Nat} (hn : h'.1.1 = h.1.1) (h1 : nX ≤ id) (ho : ∀ i, i ≠ id → aE X h' i = aE X h i) : (aW X h).set (id - nX) (aD X id, aE X h' id) = aW X h' := by
  apply List.ext_getElem?
  intro j
  rw [List.getElem?_set]
  by_cases hj : id - nX = j
  · subst hj
    rw [if_pos rfl]
    by_cases hl : id < h.1.1
    · rw [if_pos (by simp [aW]; omega), aW_at h1 (by omega)]
    · rw [if_neg (by simp [aW]; omega)]
      symm
      simp [aW]
      omega
  · rw [if_neg hj]
    by_cases hl : j < h.1.1 - nX
    · have e1 := aW_at (X := X) (h := h) (id := nX + j) (by omega) (by omega)
      have e2 := aW_at (X := X) (h := h') (id := nX + j) (by omega) (by omega)
      rw [show nX + j - nX = j by omega] at e1 e2
      rw [e1, e2, ho _ (by omega)]
    · have e1 : (aW X h)[j]? = none := by simp [aW]; omega
      have e2 : (aW X h')[j]? = none := by simp [aW]; omega
      rw [e1, e2]
theorem rm_set {α : Type} {N k : Nat} {f g : Nat → α} (hk : k < N) (ho : ∀ j, j ≠ k → g j = f j) : (List.range N).map g = ((List.range N).map f).set k (g k) := by
  apply List.ext_getElem?
  intro j
  rw [List.getElem?_set]
  by_cases hj : k = j
  · subst hj
    simp [hk]
  · rw [if_neg hj]
    by_cases hl : j < N
    · simp [hl, ho j (Ne.symm hj)]
    · simp [hl]
/-- a cell is pushed -/
theorem aW_push {X : pX} {h h' : pH} {sh : pSh} (hx : nX ≤ h.1.1) (hn : h'.1.1 = h.1.1 + 1) (ho : ∀ i, i < h.1.1 → aE X h' i = aE X h i) : aW X h ++ [(aD X h.1.1, aE X h' h.1.1)] = aW X h' := by
  unfold aW
  rw [hn, show h.1.1 + 1 - nX = (h.1.1 - nX) + 1 by omega, List.range_succ, List.map_append]
  congr 1
  · apply List.map_congr_left
    intro j hj
    have hj2 : j < h.1.1 - nX := List.mem_range.mp hj
    rw [ho _ (by omega)]
  · show [(aD X h.1.1, aE X h' h.1.1)] = [(aD X (nX + (h.1.1 - nX)), aE X h' (nX + (h.1.1 - nX)))]
    rw [show nX + (h.1.1 - nX) = h.1.1 by omega]
/-- the locals -/
def lR (X : pX) (k nL : Nat) (ls : Array Slot) (L : List Value) : Prop := ls.size = nL ∧ L.length = nL ∧ lv_wf ls ∧ (∀ (i : Nat) (v : Value), L[i]? = some v → (∀ p, v ≠ .retAddr p) → ls[i]? = some (.val (aV X v))) ∧ ∀ (i : Nat) (v : Value), L[i]? = some v → v.category = 2 → i + 1 ∈ lgP 0 (mSig k)
def lPr (X : pX) (L : List Value) : List (Nat × Value) := (List.range L.length).filterMap fun i => match (L[i]? : Option Value) with
  | some (Value.retAddr _) => none
  | some v => some (i, aV X v)
  | none => none
theorem lPr_mem {X : pX} {L : List Value} {i : Nat} {w : Value} (h : (i, w) ∈ lPr X L) : ∃ v, L[i]? = some v ∧ (∀ p, v ≠ .retAddr p) ∧ w = aV X v := by
  obtain ⟨j, hj, he⟩ := List.mem_filterMap.mp h
  split at he
  · cases he
  · rename_i v hn hv
    cases he
    exact ⟨v, hv, fun p e => hn p (by rw [e]), rfl⟩
  · cases he
theorem lPr_in {X : pX} {L : List Value} {i : Nat} {v : Value} (h : L[i]? = some v) (hn : ∀ p, v ≠ .retAddr p) : (i, aV X v) ∈ lPr X L := by
  refine List.mem_filterMap.mpr ⟨i, List.mem_range.mpr (List.getElem?_eq_some_iff.mp h).1, ?_⟩
  rw [h]
  cases v <;> first | rfl | exact absurd rfl (hn _)
theorem lR.has {X : pX} {k nL : Nat} {ls : Array Slot} {L : List Value} (h : lR X k nL ls L) : lv_has ls nL (lPr X L) := by
  refine ⟨h.1, h.2.2.1, fun q hq => ?_⟩
  obtain ⟨v, h1, h2, h3⟩ := lPr_mem (i := q.1) (w := q.2) hq
  rw [h3]
  exact h.2.2.2.1 _ _ h1 h2
theorem aV_cat {X : pX} {v : Value} : (aV X v).category = v.category := by cases v <;> rfl
theorem lR.set {X : pX} {k nL i : Nat} {ls ls' : Array Slot} {L : List Value} {v : Value} (h : lR X k nL ls L) (hg : nLg k i = true) (hv : ¬ v.category = 2)
    (h' : lv_has ls' nL ((i, aV X v) :: (lPr X L).filter (fun q => !(q.1 == i) && !(q.1 + 1 == i && q.2.category == 2)))) : lR X k nL ls' (L.set i v) := by
  refine ⟨h'.1, by rw [List.length_set]; exact h.2.1, h'.2.1, fun j w hj hw => ?_, fun j x hj hc => ?_⟩
  · rw [List.getElem?_set] at hj
    by_cases e : i = j
    · subst e
      rw [if_pos rfl] at hj
      split at hj
      · cases hj
        exact h'.2.2 _ List.mem_cons_self
      · cases hj
    · rw [if_neg e] at hj
      refine h'.2.2 (j, aV X w) (List.mem_cons_of_mem _ (List.mem_filter.mpr ⟨lPr_in hj hw, ?_⟩))
      have e1 : (j == i) = false := by simp; exact fun q => e q.symm
      have e2 : (j + 1 == i && (aV X w).category == 2) = false := by
        cases hc : (j + 1 == i) with
        | false => rfl
        | true =>
          have hji : j + 1 = i := by simpa using hc
          rw [aV_cat]
          by_cases hc2 : w.category = 2
          · have h5 := h.2.2.2.2 j w hj hc2
            rw [hji] at h5
            unfold nLg at hg
            simp at hg
            exact absurd h5 hg
          · simp [hc2]
      simp [e1, e2]
  · rw [List.getElem?_set] at hj
    by_cases e : i = j
    · subst e
      rw [if_pos rfl] at hj
      split at hj
      · cases hj
        exact absurd hc hv
      · cases hj
    · rw [if_neg e] at hj
      exact h.2.2.2.2 j x hj hc
/-! the classes -/
def ftk : FieldType → Nat
  | .int => 0
  | .boolean => 1
  | .object _ => 2
  | .array _ => 2
  | _ => 9
theorem co11 {P : Nat → Prop} (h0 : P 0) (h1 : P 1) (h2 : P 2) (h3 : P 3) (h4 : P 4) (h5 : P 5) (h6 : P 6) (h7 : P 7) (h8 : P 8) (h9 : P 9) (h10 : P 10) {c : Nat} (hc : c < 11) : P c := by
  match c, hc with
  | 0, _ => exact h0
  | 1, _ => exact h1
  | 2, _ => exact h2
  | 3, _ => exact h3
  | 4, _ => exact h4
  | 5, _ => exact h5
  | 6, _ => exact h6
  | 7, _ => exact h7
  | 8, _ => exact h8
  | 9, _ => exact h9
  | 10, _ => exact h10
  | c + 11, h => exact absurd h (by omega)
theorem kd_ty {c : Nat} (hc : c < 11) : ∀ k, k < cNf c → ftk (cTy c k) = (cKd c).getD k 0 := co11 (P := fun c => ∀ k, k < cNf c → ftk (cTy c k) = (cKd c).getD k 0) (by decide +kernel) (by decide +kernel) (by decide +kernel) (by decide +kernel) (by decide +kernel) (by decide +kernel) (by decide +kernel) (by decide +kernel) (by decide +kernel) (by decide +kernel) (by decide +kernel) hc
theorem cl_at {c : Nat} (hc : c < 11) : vwCl[c]? = some (cNm c, cTt c, cNf c) := co11 (P := fun c => vwCl[c]? = some (cNm c, cTt c, cNf c)) rfl rfl rfl rfl rfl rfl rfl rfl rfl rfl rfl hc
theorem ty_ok {c : Nat} (hc : c < 11) : ∀ k, k < cNf c → parseFieldDescriptor (cTt c k).2.2.1 = some (cTy c k) := co11 (P := fun c => ∀ k, k < cNf c → parseFieldDescriptor (cTt c k).2.2.1 = some (cTy c k)) tyX0_ok tyX1_ok tyX2_ok tyX3_ok tyX4_ok tyX5_ok tyX6_ok tyX7_ok tyX8_ok tyX9_ok tyX10_ok hc
theorem nm_ok {c : Nat} (hc : c < 11) : ∀ a, a < cNf c → ∀ b, b < cNf c → a ≠ b → (cTt c a).2.1 ≠ (cTt c b).2.1 := co11 (P := fun c => ∀ a, a < cNf c → ∀ b, b < cNf c → a ≠ b → (cTt c a).2.1 ≠ (cTt c b).2.1) nmX0 nmX1 nmX2 nmX3 nmX4 nmX5 nmX6 nmX7 nmX8 nmX9 nmX10 hc
theorem us_mem {ws : List Cond} {ps : List Nat} (hl : ws.length = ps.length) (h : (ws.zip ps).all (fun q => decide (lw_tbl[q.2]? = some q.1) && goodWord q.1) = true) : ∀ w ∈ ws, w ∈ gT := zip_mem (f := fun w => w) hl h
set_option maxRecDepth 100000 in
theorem us_0 : ∀ w ∈ u_ws (cNm 0) (cTt 0) (cNf 0), w ∈ gT := us_mem (ps := [272, 274, 276, 278, 280, 282, 284]) (by decide +kernel) (by decide +kernel)
set_option maxRecDepth 100000 in
theorem us_1 : ∀ w ∈ u_ws (cNm 1) (cTt 1) (cNf 1), w ∈ gT := us_mem (ps := [199, 201, 203]) (by decide +kernel) (by decide +kernel)
set_option maxRecDepth 100000 in
theorem us_2 : ∀ w ∈ u_ws (cNm 2) (cTt 2) (cNf 2), w ∈ gT := us_mem (ps := [230, 232, 234, 236, 238, 240, 242, 244, 246, 248, 250, 252]) (by decide +kernel) (by decide +kernel)
set_option maxRecDepth 100000 in
theorem us_3 : ∀ w ∈ u_ws (cNm 3) (cTt 3) (cNf 3), w ∈ gT := us_mem (ps := [316, 318, 320, 322]) (by decide +kernel) (by decide +kernel)
set_option maxRecDepth 100000 in
theorem us_4 : ∀ w ∈ u_ws (cNm 4) (cTt 4) (cNf 4), w ∈ gT := us_mem (ps := [180, 182]) (by decide +kernel) (by decide +kernel)
set_option maxRecDepth 100000 in
theorem us_5 : ∀ w ∈ u_ws (cNm 5) (cTt 5) (cNf 5), w ∈ gT := us_mem (ps := [140, 142, 144, 146, 148, 150, 152, 154, 156, 158]) (by decide +kernel) (by decide +kernel)
set_option maxRecDepth 100000 in
theorem us_6 : ∀ w ∈ u_ws (cNm 6) (cTt 6) (cNf 6), w ∈ gT := us_mem (ps := [352, 354]) (by decide +kernel) (by decide +kernel)
set_option maxRecDepth 100000 in
theorem us_7 : ∀ w ∈ u_ws (cNm 7) (cTt 7) (cNf 7), w ∈ gT := us_mem (ps := [336]) (by decide +kernel) (by decide +kernel)
set_option maxRecDepth 100000 in
theorem us_8 : ∀ w ∈ u_ws (cNm 8) (cTt 8) (cNf 8), w ∈ gT := us_mem (ps := [297, 299]) (by decide +kernel) (by decide +kernel)
set_option maxRecDepth 100000 in
theorem us_9 : ∀ w ∈ u_ws (cNm 9) (cTt 9) (cNf 9), w ∈ gT := us_mem (ps := [366, 368, 370, 372, 374, 376, 378, 380, 382]) (by decide +kernel) (by decide +kernel)
set_option maxRecDepth 100000 in
theorem us_10 : ∀ w ∈ u_ws (cNm 10) (cTt 10) (cNf 10), w ∈ gT := us_mem (ps := [1151, 1153, 1155, 1157, 1159, 1161, 1163, 1165, 1167, 1169, 1171, 1173, 1175, 1177, 1179, 1181, 1183, 1185, 1187, 1189, 1191, 1193, 1195, 1197, 1199]) (by decide +kernel) (by decide +kernel)
theorem us_ok {c : Nat} (hc : c < 11) : ∀ w ∈ u_ws (cNm c) (cTt c) (cNf c), w ∈ gT := co11 (P := fun c => ∀ w ∈ u_ws (cNm c) (cTt c) (cNf c), w ∈ gT) us_0 us_1 us_2 us_3 us_4 us_5 us_6 us_7 us_8 us_9 us_10 hc
set_option maxRecDepth 100000 in
theorem w_arrI : Cond.arrayClass .int ∈ gT := gT_i (i := 185) (by decide +kernel)
set_option maxRecDepth 100000 in
theorem w_nat : Cond.native arraycopyName ∈ gT := gT_i (i := 799) (by decide +kernel)
set_option maxRecDepth 100000 in
theorem w_acs : Cond.static arraycopyName ∈ gT := gT_i (i := 798) (by decide +kernel)
set_option maxRecDepth 100000 in
theorem w_sys : Cond.initialized "java/lang/System" ∈ gT := gT_i (i := 94) (by decide +kernel)
set_option maxRecDepth 100000 in
theorem w_oin : Cond.instanceMethod Lib.objectInit ∈ gT := gT_i (i := 101) (by decide +kernel)
set_option maxRecDepth 100000 in
theorem w_oco : Cond.code Lib.objectInit ⟨#[0xb1]⟩ 1 none ∈ gT := gT_i (i := 102) (by decide +kernel)
set_option maxRecDepth 100000 in
theorem w_maxs : Cond.static Lib.Math.max.name ∈ gT := gT_i (i := 171) (by decide +kernel)
set_option maxRecDepth 100000 in
theorem w_maxc : Cond.code Lib.Math.max.name Lib.Math.max.code 2 (some .int) ∈ gT := gT_i (i := 172) (by decide +kernel)
set_option maxRecDepth 100000 in
theorem w_mins : Cond.static Lib.Math.min.name ∈ gT := gT_i (i := 602) (by decide +kernel)
set_option maxRecDepth 100000 in
theorem w_minc : Cond.code Lib.Math.min.name Lib.Math.min.code 2 (some .int) ∈ gT := gT_i (i := 603) (by decide +kernel)
theorem w_mth : Cond.initialized "java/lang/Math" ∈ gT := ini_in 14 (by decide)
