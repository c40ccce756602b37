/-! each instruction of the abstract machine is the machine's own -/
section STP
variable {p : Program} {l : Launch} {e : Env} {R : Room} {s : State} {m : MethodId} {args : Array Value} {below : List Frame} {meth : Method} {c : Code} {Q : State → Prop} {X : pX} {k n0 sl0 : Nat}
/-- what is fixed in a frame -/
def fC (p : Program) (s : State) (m : MethodId) (args : Array Value) (meth : Method) (c : Code) (X : pX) (k : Nat) : Prop := p.tables.exec = Jvm.exec ∧ c.code = mCode k ∧ c.maxLocals = mMax k ∧ s.vm.findClass (cNm (mOwn k)) = some m.cls ∧ (∀ w ∈ gT, w.before args s = true) ∧ va_K (aG X) vwCl (aT X) s ∧ meth.name = (mYn k).name ∧ k < 259
/-- how the heap stands in a frame -/
def aI (X : pX) (s : State) (n0 sl0 : Nat) (h : pH) (H : Heap) (locs : List Loc) : Prop := pU h ∧ va_P (aG X) vwCl (aW X h) H ∧ va_S (aA X) s.heap H locs ∧ aX X h s s.heap ∧ nX ≤ n0 ∧ n0 ≤ h.1.1 ∧ sl0 ≤ h.1.2 ∧ s.heap.size = X.2.2.2.2 + (n0 - nX)
/-- the machine, wherever the abstract one stands like this, comes to Q -/
def gW (p : Program) (l : Launch) (e : Env) (R : Room) (s : State) (m : MethodId) (args : Array Value) (below : List Frame) (meth : Method) (c : Code) (Q : State → Prop) (X : pX) (k n0 sl0 : Nat) (a : pF) : Prop :=
  ∀ (H : Heap) (locs : List Loc) (ls : Array Slot), aI X s n0 sl0 a.2.2.2 H locs → lR X k (mMax k) ls a.2.1 → W p l e R s m args below meth c H locs (a.2.2.2.1.1 - n0) (a.2.2.2.1.2 - sl0) Q (F0 m a.1 ls (a.2.2.1.map (aV X)))
theorem okN1 {n : Nat} (h : (n == 1) = true) : n = 1 := by simpa using h
theorem okN2 {n : Nat} (h : (n == 2) = true) : n = 2 := by simpa using h
theorem okN3 {n : Nat} (h : (n == 3) = true) : n = 3 := by simpa using h
theorem tg_of {pc : Nat} {o x : Int} (h : tgE pc o x = true) : (pc : Int) + o = ((x.toNat : Nat) : Int) := by
  unfold tgE at h
  simp only [Bool.and_eq_true, decide_eq_true_eq] at h
  rw [h.1]
  omega
theorem tN {x : Int} (h : 0 ≤ x) : ((x.toNat : Nat) : Int) = x := Int.toNat_of_nonneg h
variable {pc n : Nat} {x : Int} {ps : List (Int × Nat)} {L st : List Value} {h : pH} {a : pF} {cf : Nat → List Value → pH → Option (Option Value × pH)}

theorem so_iconst {i : Int} (F : fC p s m args meth c X k) (hd : decode (mCode k) pc = .ok (.iconst i, n)) (hn : okE k pc n (.iconst i) x ps = true) (hs : stp cf k pc (.iconst i, x, ps) L st h = some (.inl a)) (kk : gW p l e R s m args below meth c Q X k n0 sl0 a) : gW p l e R s m args below meth c Q X k n0 sl0 (pc, L, st, h) := by
  intro H locs ls hI hL
  simp only [okE, Bool.and_eq_true, decide_eq_true_eq] at hn
  obtain ⟨h1, h2⟩ := hn
  have h1 := okN1 h1
  subst h1; subst h2
  simp only [stp, Option.some.injEq, Sum.inl.injEq] at hs
  subst hs
  exact lv_iconst F.1 F.2.1 hd rfl (kk H locs ls hI hL)

theorem so_bipush {i : Int} (F : fC p s m args meth c X k) (hd : decode (mCode k) pc = .ok (.bipush i, n)) (hn : okE k pc n (.bipush i) x ps = true) (hs : stp cf k pc (.bipush i, x, ps) L st h = some (.inl a)) (kk : gW p l e R s m args below meth c Q X k n0 sl0 a) : gW p l e R s m args below meth c Q X k n0 sl0 (pc, L, st, h) := by
  intro H locs ls hI hL
  simp only [okE, Bool.and_eq_true, decide_eq_true_eq] at hn
  obtain ⟨h1, h2⟩ := hn
  have h1 := okN2 h1
  subst h1
  simp only [stp, Option.some.injEq, Sum.inl.injEq] at hs
  subst hs
  exact lv_bipush F.1 F.2.1 hd h2 (kk H locs ls hI hL)

theorem so_sipush {i : Int} (F : fC p s m args meth c X k) (hd : decode (mCode k) pc = .ok (.sipush i, n)) (hn : okE k pc n (.sipush i) x ps = true) (hs : stp cf k pc (.sipush i, x, ps) L st h = some (.inl a)) (kk : gW p l e R s m args below meth c Q X k n0 sl0 a) : gW p l e R s m args below meth c Q X k n0 sl0 (pc, L, st, h) := by
  intro H locs ls hI hL
  simp only [okE, Bool.and_eq_true, decide_eq_true_eq] at hn
  obtain ⟨h1, h2⟩ := hn
  have h1 := okN3 h1
  subst h1
  simp only [stp, Option.some.injEq, Sum.inl.injEq] at hs
  subst hs
  exact lv_sipush F.1 F.2.1 hd h2 (kk H locs ls hI hL)

theorem so_lconst {i : Fin 2} (F : fC p s m args meth c X k) (hd : decode (mCode k) pc = .ok (.lconst i, n)) (hn : okE k pc n (.lconst i) x ps = true) (hs : stp cf k pc (.lconst i, x, ps) L st h = some (.inl a)) (kk : gW p l e R s m args below meth c Q X k n0 sl0 a) : gW p l e R s m args below meth c Q X k n0 sl0 (pc, L, st, h) := by
  intro H locs ls hI hL
  have h1 := okN1 hn
  subst h1
  simp only [stp, Option.some.injEq, Sum.inl.injEq] at hs
  subst hs
  exact lv_lconst F.1 F.2.1 hd rfl (kk H locs ls hI hL)

theorem so_ldc {j : Nat} (F : fC p s m args meth c X k) (hd : decode (mCode k) pc = .ok (.ldc j, n)) (hn : okE k pc n (.ldc j) x ps = true) (hs : stp cf k pc (.ldc j, x, ps) L st h = some (.inl a)) (kk : gW p l e R s m args below meth c Q X k n0 sl0 a) : gW p l e R s m args below meth c Q X k n0 sl0 (pc, L, st, h) := by
  intro H locs ls hI hL
  simp only [okE, Bool.and_eq_true] at hn
  obtain ⟨h1, h2⟩ := hn
  have h1 := okN2 h1
  subst h1
  cases ps with
  | nil =>
    simp only [decide_eq_true_eq] at h2
    simp only [stp, Option.some.injEq, Sum.inl.injEq] at hs
    subst hs
    exact lv_ldc F.1 F.2.1 F.2.2.2.1 (F.2.2.2.2.1 _ (CN_in _ h2)) hd (kk H locs ls hI hL)
  | cons q l2 =>
    simp only [Bool.and_eq_true, decide_eq_true_eq] at h2
    simp only [stp, Option.some.injEq, Sum.inl.injEq] at hs
    subst hs
    have hlt : x.toNat < 3 := by
      have hall : ∀ q ∈ SRk, q.2.2 < 3 := by decide +kernel
      exact hall _ h2.2
    have h5 := hI.2.2.2.1.2.2.2.2.1 _ h2.2
    have h6 := kk H locs ls hI hL
    refine va_ldcS F.1 F.2.1 F.2.2.2.1 h5 hd ?_
    have e : aD X x.toNat = X.2.2.2.1 x.toNat := if_pos (Nat.lt_trans hlt (by decide))
    rw [← e]
    exact h6

theorem so_ldc_w {j : Nat} (F : fC p s m args meth c X k) (hd : decode (mCode k) pc = .ok (.ldc_w j, n)) (hn : okE k pc n (.ldc_w j) x ps = true) (hs : stp cf k pc (.ldc_w j, x, ps) L st h = some (.inl a)) (kk : gW p l e R s m args below meth c Q X k n0 sl0 a) : gW p l e R s m args below meth c Q X k n0 sl0 (pc, L, st, h) := by
  intro H locs ls hI hL
  simp only [okE, Bool.and_eq_true, decide_eq_true_eq] at hn
  obtain ⟨h1, h2⟩ := hn
  have h1 := okN3 h1
  subst h1
  simp only [stp, Option.some.injEq, Sum.inl.injEq] at hs
  subst hs
  exact lv_ldcw F.1 F.2.1 F.2.2.2.1 (F.2.2.2.2.1 _ (CN_in _ h2)) hd (kk H locs ls hI hL)

theorem so_ldc2_w {j : Nat} (F : fC p s m args meth c X k) (hd : decode (mCode k) pc = .ok (.ldc2_w j, n)) (hn : okE k pc n (.ldc2_w j) x ps = true) (hs : stp cf k pc (.ldc2_w j, x, ps) L st h = some (.inl a)) (kk : gW p l e R s m args below meth c Q X k n0 sl0 a) : gW p l e R s m args below meth c Q X k n0 sl0 (pc, L, st, h) := by
  intro H locs ls hI hL
  simp only [okE, Bool.and_eq_true, decide_eq_true_eq] at hn
  obtain ⟨h1, h2⟩ := hn
  have h1 := okN3 h1
  subst h1
  simp only [stp, Option.some.injEq, Sum.inl.injEq] at hs
  subst hs
  exact lv_ldc2 F.1 F.2.1 F.2.2.2.1 (F.2.2.2.2.1 _ (CL_in _ h2)) hd (kk H locs ls hI hL)

theorem so_iload {i : Nat} (F : fC p s m args meth c X k) (hd : decode (mCode k) pc = .ok (.iload i, n)) (hn : okE k pc n (.iload i) x ps = true) (hs : stp cf k pc (.iload i, x, ps) L st h = some (.inl a)) (kk : gW p l e R s m args below meth c Q X k n0 sl0 a) : gW p l e R s m args below meth c Q X k n0 sl0 (pc, L, st, h) := by
  intro H locs ls hI hL
  have h1 := okN2 hn
  subst h1
  simp only [stp] at hs
  split at hs
  · rename_i y hq
    simp only [Option.some.injEq, Sum.inl.injEq] at hs
    subst hs
    exact lv_iload F.1 F.2.1 hd (hL.2.2.2.1 _ _ hq (fun p h => by cases h)) (kk H locs ls hI hL)
  · cases hs

theorem so_iload_n {i : Fin 4} (F : fC p s m args meth c X k) (hd : decode (mCode k) pc = .ok (.iload_n i, n)) (hn : okE k pc n (.iload_n i) x ps = true) (hs : stp cf k pc (.iload_n i, x, ps) L st h = some (.inl a)) (kk : gW p l e R s m args below meth c Q X k n0 sl0 a) : gW p l e R s m args below meth c Q X k n0 sl0 (pc, L, st, h) := by
  intro H locs ls hI hL
  have h1 := okN1 hn
  subst h1
  simp only [stp] at hs
  split at hs
  · rename_i y hq
    simp only [Option.some.injEq, Sum.inl.injEq] at hs
    subst hs
    exact lv_iload_n F.1 F.2.1 hd rfl (hL.2.2.2.1 _ _ hq (fun p h => by cases h)) (kk H locs ls hI hL)
  · cases hs

theorem so_aload {i : Nat} (F : fC p s m args meth c X k) (hd : decode (mCode k) pc = .ok (.aload i, n)) (hn : okE k pc n (.aload i) x ps = true) (hs : stp cf k pc (.aload i, x, ps) L st h = some (.inl a)) (kk : gW p l e R s m args below meth c Q X k n0 sl0 a) : gW p l e R s m args below meth c Q X k n0 sl0 (pc, L, st, h) := by
  intro H locs ls hI hL
  have h1 := okN2 hn
  subst h1
  simp only [stp] at hs
  split at hs
  · rename_i y hq
    simp only [Option.some.injEq, Sum.inl.injEq] at hs
    subst hs
    exact lv_aload F.1 F.2.1 hd (hL.2.2.2.1 _ _ hq (fun p h => by cases h)) (kk H locs ls hI hL)
  · cases hs

theorem so_aload_n {i : Fin 4} (F : fC p s m args meth c X k) (hd : decode (mCode k) pc = .ok (.aload_n i, n)) (hn : okE k pc n (.aload_n i) x ps = true) (hs : stp cf k pc (.aload_n i, x, ps) L st h = some (.inl a)) (kk : gW p l e R s m args below meth c Q X k n0 sl0 a) : gW p l e R s m args below meth c Q X k n0 sl0 (pc, L, st, h) := by
  intro H locs ls hI hL
  have h1 := okN1 hn
  subst h1
  simp only [stp] at hs
  split at hs
  · rename_i y hq
    simp only [Option.some.injEq, Sum.inl.injEq] at hs
    subst hs
    exact lv_aload_n F.1 F.2.1 hd rfl (hL.2.2.2.1 _ _ hq (fun p h => by cases h)) (kk H locs ls hI hL)
  · cases hs

theorem so_lload {i : Nat} (F : fC p s m args meth c X k) (hd : decode (mCode k) pc = .ok (.lload i, n)) (hn : okE k pc n (.lload i) x ps = true) (hs : stp cf k pc (.lload i, x, ps) L st h = some (.inl a)) (kk : gW p l e R s m args below meth c Q X k n0 sl0 a) : gW p l e R s m args below meth c Q X k n0 sl0 (pc, L, st, h) := by
  intro H locs ls hI hL
  have h1 := okN2 hn
  subst h1
  simp only [stp] at hs
  split at hs
  · rename_i y hq
    simp only [Option.some.injEq, Sum.inl.injEq] at hs
    subst hs
    exact lv_lload F.1 F.2.1 hd (hL.2.2.2.1 _ _ hq (fun p h => by cases h)) (kk H locs ls hI hL)
  · cases hs

theorem so_lload_n {i : Fin 4} (F : fC p s m args meth c X k) (hd : decode (mCode k) pc = .ok (.lload_n i, n)) (hn : okE k pc n (.lload_n i) x ps = true) (hs : stp cf k pc (.lload_n i, x, ps) L st h = some (.inl a)) (kk : gW p l e R s m args below meth c Q X k n0 sl0 a) : gW p l e R s m args below meth c Q X k n0 sl0 (pc, L, st, h) := by
  intro H locs ls hI hL
  have h1 := okN1 hn
  subst h1
  simp only [stp] at hs
  split at hs
  · rename_i y hq
    simp only [Option.some.injEq, Sum.inl.injEq] at hs
    subst hs
    exact lv_lload_n F.1 F.2.1 hd rfl (hL.2.2.2.1 _ _ hq (fun p h => by cases h)) (kk H locs ls hI hL)
  · cases hs

theorem so_istore {i : Nat} (F : fC p s m args meth c X k) (hd : decode (mCode k) pc = .ok (.istore i, n)) (hn : okE k pc n (.istore i) x ps = true) (hs : stp cf k pc (.istore i, x, ps) L st h = some (.inl a)) (kk : gW p l e R s m args below meth c Q X k n0 sl0 a) : gW p l e R s m args below meth c Q X k n0 sl0 (pc, L, st, h) := by
  intro H locs ls hI hL
  have h1 := okN2 hn
  subst h1
  simp only [stp] at hs
  split at hs
  · split at hs
    · rename_i hc
      simp only [Option.some.injEq, Sum.inl.injEq] at hs
      subst hs
      exact lv_istore F.1 F.2.1 hd hL.has (by rw [← hL.2.1]; exact hc.1) rfl (fun ls' h' => kk H locs ls' hI (hL.set hc.2 (by simp [Value.category]) h'))
    · cases hs
  · cases hs

theorem so_istore_n {i : Fin 4} (F : fC p s m args meth c X k) (hd : decode (mCode k) pc = .ok (.istore_n i, n)) (hn : okE k pc n (.istore_n i) x ps = true) (hs : stp cf k pc (.istore_n i, x, ps) L st h = some (.inl a)) (kk : gW p l e R s m args below meth c Q X k n0 sl0 a) : gW p l e R s m args below meth c Q X k n0 sl0 (pc, L, st, h) := by
  intro H locs ls hI hL
  have h1 := okN1 hn
  subst h1
  simp only [stp] at hs
  split at hs
  · split at hs
    · rename_i hc
      simp only [Option.some.injEq, Sum.inl.injEq] at hs
      subst hs
      exact lv_istore_n F.1 F.2.1 hd rfl hL.has (by rw [← hL.2.1]; exact hc.1) rfl (fun ls' h' => kk H locs ls' hI (hL.set hc.2 (by simp [Value.category]) h'))
    · cases hs
  · cases hs

theorem so_astore {i : Nat} (F : fC p s m args meth c X k) (hd : decode (mCode k) pc = .ok (.astore i, n)) (hn : okE k pc n (.astore i) x ps = true) (hs : stp cf k pc (.astore i, x, ps) L st h = some (.inl a)) (kk : gW p l e R s m args below meth c Q X k n0 sl0 a) : gW p l e R s m args below meth c Q X k n0 sl0 (pc, L, st, h) := by
  intro H locs ls hI hL
  have h1 := okN2 hn
  subst h1
  simp only [stp] at hs
  split at hs
  · split at hs
    · rename_i hc
      simp only [Option.some.injEq, Sum.inl.injEq] at hs
      subst hs
      exact lv_astore F.1 F.2.1 hd hL.has (by rw [← hL.2.1]; exact hc.1) rfl (fun ls' h' => kk H locs ls' hI (hL.set hc.2 (by simp [Value.category]) h'))
    · cases hs
  · cases hs

theorem so_astore_n {i : Fin 4} (F : fC p s m args meth c X k) (hd : decode (mCode k) pc = .ok (.astore_n i, n)) (hn : okE k pc n (.astore_n i) x ps = true) (hs : stp cf k pc (.astore_n i, x, ps) L st h = some (.inl a)) (kk : gW p l e R s m args below meth c Q X k n0 sl0 a) : gW p l e R s m args below meth c Q X k n0 sl0 (pc, L, st, h) := by
  intro H locs ls hI hL
  have h1 := okN1 hn
  subst h1
  simp only [stp] at hs
  split at hs
  · split at hs
    · rename_i hc
      simp only [Option.some.injEq, Sum.inl.injEq] at hs
      subst hs
      exact lv_astore_n F.1 F.2.1 hd rfl hL.has (by rw [← hL.2.1]; exact hc.1) rfl (fun ls' h' => kk H locs ls' hI (hL.set hc.2 (by simp [Value.category]) h'))
    · cases hs
  · cases hs

theorem so_iinc {i : Nat} {d : Int} (F : fC p s m args meth c X k) (hd : decode (mCode k) pc = .ok (.iinc i d, n)) (hn : okE k pc n (.iinc i d) x ps = true) (hs : stp cf k pc (.iinc i d, x, ps) L st h = some (.inl a)) (kk : gW p l e R s m args below meth c Q X k n0 sl0 a) : gW p l e R s m args below meth c Q X k n0 sl0 (pc, L, st, h) := by
  intro H locs ls hI hL
  have h1 := okN3 hn
  subst h1
  simp only [stp] at hs
  split at hs
  · rename_i y hq
    split at hs
    · rename_i hc
      simp only [Option.some.injEq, Sum.inl.injEq] at hs
      subst hs
      obtain ⟨j, hj⟩ := List.getElem?_of_mem (lPr_in (X := X) hq (fun p h => by cases h))
      exact lv_iinc (k := j) F.1 F.2.1 hd hL.has hj rfl (by rw [← hL.2.1]; exact (List.getElem?_eq_some_iff.mp hq).1) rfl (fun ls' h' => kk H locs ls' hI (hL.set (v := .int (y + Int32.ofInt d)) hc (by simp [Value.category]) h'))
    · cases hs
  · cases hs

theorem so_iadd (F : fC p s m args meth c X k) (hd : decode (mCode k) pc = .ok (.iadd, n)) (hn : okE k pc n (.iadd) x ps = true) (hs : stp cf k pc (.iadd, x, ps) L st h = some (.inl a)) (kk : gW p l e R s m args below meth c Q X k n0 sl0 a) : gW p l e R s m args below meth c Q X k n0 sl0 (pc, L, st, h) := by
  intro H locs ls hI hL
  have h1 := okN1 hn
  subst h1
  simp only [stp] at hs
  split at hs
  · simp only [Option.some.injEq, Sum.inl.injEq] at hs
    subst hs
    exact lv_iadd F.1 F.2.1 hd (kk H locs ls hI hL)
  · cases hs

theorem so_isub (F : fC p s m args meth c X k) (hd : decode (mCode k) pc = .ok (.isub, n)) (hn : okE k pc n (.isub) x ps = true) (hs : stp cf k pc (.isub, x, ps) L st h = some (.inl a)) (kk : gW p l e R s m args below meth c Q X k n0 sl0 a) : gW p l e R s m args below meth c Q X k n0 sl0 (pc, L, st, h) := by
  intro H locs ls hI hL
  have h1 := okN1 hn
  subst h1
  simp only [stp] at hs
  split at hs
  · simp only [Option.some.injEq, Sum.inl.injEq] at hs
    subst hs
    exact lv_isub F.1 F.2.1 hd (kk H locs ls hI hL)
  · cases hs

theorem so_imul (F : fC p s m args meth c X k) (hd : decode (mCode k) pc = .ok (.imul, n)) (hn : okE k pc n (.imul) x ps = true) (hs : stp cf k pc (.imul, x, ps) L st h = some (.inl a)) (kk : gW p l e R s m args below meth c Q X k n0 sl0 a) : gW p l e R s m args below meth c Q X k n0 sl0 (pc, L, st, h) := by
  intro H locs ls hI hL
  have h1 := okN1 hn
  subst h1
  simp only [stp] at hs
  split at hs
  · simp only [Option.some.injEq, Sum.inl.injEq] at hs
    subst hs
    exact lv_imul F.1 F.2.1 hd (kk H locs ls hI hL)
  · cases hs

theorem so_iand (F : fC p s m args meth c X k) (hd : decode (mCode k) pc = .ok (.iand, n)) (hn : okE k pc n (.iand) x ps = true) (hs : stp cf k pc (.iand, x, ps) L st h = some (.inl a)) (kk : gW p l e R s m args below meth c Q X k n0 sl0 a) : gW p l e R s m args below meth c Q X k n0 sl0 (pc, L, st, h) := by
  intro H locs ls hI hL
  have h1 := okN1 hn
  subst h1
  simp only [stp] at hs
  split at hs
  · simp only [Option.some.injEq, Sum.inl.injEq] at hs
    subst hs
    exact lv_iand F.1 F.2.1 hd (kk H locs ls hI hL)
  · cases hs

theorem so_ior (F : fC p s m args meth c X k) (hd : decode (mCode k) pc = .ok (.ior, n)) (hn : okE k pc n (.ior) x ps = true) (hs : stp cf k pc (.ior, x, ps) L st h = some (.inl a)) (kk : gW p l e R s m args below meth c Q X k n0 sl0 a) : gW p l e R s m args below meth c Q X k n0 sl0 (pc, L, st, h) := by
  intro H locs ls hI hL
  have h1 := okN1 hn
  subst h1
  simp only [stp] at hs
  split at hs
  · simp only [Option.some.injEq, Sum.inl.injEq] at hs
    subst hs
    exact lv_ior F.1 F.2.1 hd (kk H locs ls hI hL)
  · cases hs

theorem so_ixor (F : fC p s m args meth c X k) (hd : decode (mCode k) pc = .ok (.ixor, n)) (hn : okE k pc n (.ixor) x ps = true) (hs : stp cf k pc (.ixor, x, ps) L st h = some (.inl a)) (kk : gW p l e R s m args below meth c Q X k n0 sl0 a) : gW p l e R s m args below meth c Q X k n0 sl0 (pc, L, st, h) := by
  intro H locs ls hI hL
  have h1 := okN1 hn
  subst h1
  simp only [stp] at hs
  split at hs
  · simp only [Option.some.injEq, Sum.inl.injEq] at hs
    subst hs
    exact lv_ixor F.1 F.2.1 hd (kk H locs ls hI hL)
  · cases hs

theorem so_ineg (F : fC p s m args meth c X k) (hd : decode (mCode k) pc = .ok (.ineg, n)) (hn : okE k pc n (.ineg) x ps = true) (hs : stp cf k pc (.ineg, x, ps) L st h = some (.inl a)) (kk : gW p l e R s m args below meth c Q X k n0 sl0 a) : gW p l e R s m args below meth c Q X k n0 sl0 (pc, L, st, h) := by
  intro H locs ls hI hL
  have h1 := okN1 hn
  subst h1
  simp only [stp] at hs
  split at hs
  · simp only [Option.some.injEq, Sum.inl.injEq] at hs
    subst hs
    exact lv_ineg F.1 F.2.1 hd (kk H locs ls hI hL)
  · cases hs

theorem so_ishl (F : fC p s m args meth c X k) (hd : decode (mCode k) pc = .ok (.ishl, n)) (hn : okE k pc n (.ishl) x ps = true) (hs : stp cf k pc (.ishl, x, ps) L st h = some (.inl a)) (kk : gW p l e R s m args below meth c Q X k n0 sl0 a) : gW p l e R s m args below meth c Q X k n0 sl0 (pc, L, st, h) := by
  intro H locs ls hI hL
  have h1 := okN1 hn
  subst h1
  simp only [stp] at hs
  split at hs
  · simp only [Option.some.injEq, Sum.inl.injEq] at hs
    subst hs
    exact lv_ishl F.1 F.2.1 hd (kk H locs ls hI hL)
  · cases hs

theorem so_ishr (F : fC p s m args meth c X k) (hd : decode (mCode k) pc = .ok (.ishr, n)) (hn : okE k pc n (.ishr) x ps = true) (hs : stp cf k pc (.ishr, x, ps) L st h = some (.inl a)) (kk : gW p l e R s m args below meth c Q X k n0 sl0 a) : gW p l e R s m args below meth c Q X k n0 sl0 (pc, L, st, h) := by
  intro H locs ls hI hL
  have h1 := okN1 hn
  subst h1
  simp only [stp] at hs
  split at hs
  · simp only [Option.some.injEq, Sum.inl.injEq] at hs
    subst hs
    exact lv_ishr F.1 F.2.1 hd (kk H locs ls hI hL)
  · cases hs

theorem so_land (F : fC p s m args meth c X k) (hd : decode (mCode k) pc = .ok (.land, n)) (hn : okE k pc n (.land) x ps = true) (hs : stp cf k pc (.land, x, ps) L st h = some (.inl a)) (kk : gW p l e R s m args below meth c Q X k n0 sl0 a) : gW p l e R s m args below meth c Q X k n0 sl0 (pc, L, st, h) := by
  intro H locs ls hI hL
  have h1 := okN1 hn
  subst h1
  simp only [stp] at hs
  split at hs
  · simp only [Option.some.injEq, Sum.inl.injEq] at hs
    subst hs
    exact lv_land F.1 F.2.1 hd (kk H locs ls hI hL)
  · cases hs

theorem so_lor (F : fC p s m args meth c X k) (hd : decode (mCode k) pc = .ok (.lor, n)) (hn : okE k pc n (.lor) x ps = true) (hs : stp cf k pc (.lor, x, ps) L st h = some (.inl a)) (kk : gW p l e R s m args below meth c Q X k n0 sl0 a) : gW p l e R s m args below meth c Q X k n0 sl0 (pc, L, st, h) := by
  intro H locs ls hI hL
  have h1 := okN1 hn
  subst h1
  simp only [stp] at hs
  split at hs
  · simp only [Option.some.injEq, Sum.inl.injEq] at hs
    subst hs
    exact lv_lor F.1 F.2.1 hd (kk H locs ls hI hL)
  · cases hs

theorem so_iushr (F : fC p s m args meth c X k) (hd : decode (mCode k) pc = .ok (.iushr, n)) (hn : okE k pc n (.iushr) x ps = true) (hs : stp cf k pc (.iushr, x, ps) L st h = some (.inl a)) (kk : gW p l e R s m args below meth c Q X k n0 sl0 a) : gW p l e R s m args below meth c Q X k n0 sl0 (pc, L, st, h) := by
  intro H locs ls hI hL
  have h1 := okN1 hn
  subst h1
  simp only [stp] at hs
  split at hs
  · simp only [Option.some.injEq, Sum.inl.injEq] at hs
    subst hs
    exact lv_iushr F.1 F.2.1 hd rfl (kk H locs ls hI hL)
  · cases hs

theorem so_i2l (F : fC p s m args meth c X k) (hd : decode (mCode k) pc = .ok (.i2l, n)) (hn : okE k pc n (.i2l) x ps = true) (hs : stp cf k pc (.i2l, x, ps) L st h = some (.inl a)) (kk : gW p l e R s m args below meth c Q X k n0 sl0 a) : gW p l e R s m args below meth c Q X k n0 sl0 (pc, L, st, h) := by
  intro H locs ls hI hL
  have h1 := okN1 hn
  subst h1
  simp only [stp] at hs
  split at hs
  · simp only [Option.some.injEq, Sum.inl.injEq] at hs
    subst hs
    exact lv_i2l F.1 F.2.1 hd rfl (kk H locs ls hI hL)
  · cases hs

theorem so_l2i (F : fC p s m args meth c X k) (hd : decode (mCode k) pc = .ok (.l2i, n)) (hn : okE k pc n (.l2i) x ps = true) (hs : stp cf k pc (.l2i, x, ps) L st h = some (.inl a)) (kk : gW p l e R s m args below meth c Q X k n0 sl0 a) : gW p l e R s m args below meth c Q X k n0 sl0 (pc, L, st, h) := by
  intro H locs ls hI hL
  have h1 := okN1 hn
  subst h1
  simp only [stp] at hs
  split at hs
  · simp only [Option.some.injEq, Sum.inl.injEq] at hs
    subst hs
    exact lv_l2i F.1 F.2.1 hd rfl (kk H locs ls hI hL)
  · cases hs

theorem so_i2b (F : fC p s m args meth c X k) (hd : decode (mCode k) pc = .ok (.i2b, n)) (hn : okE k pc n (.i2b) x ps = true) (hs : stp cf k pc (.i2b, x, ps) L st h = some (.inl a)) (kk : gW p l e R s m args below meth c Q X k n0 sl0 a) : gW p l e R s m args below meth c Q X k n0 sl0 (pc, L, st, h) := by
  intro H locs ls hI hL
  have h1 := okN1 hn
  subst h1
  simp only [stp] at hs
  split at hs
  · simp only [Option.some.injEq, Sum.inl.injEq] at hs
    subst hs
    exact lv_i2b F.1 F.2.1 hd rfl (kk H locs ls hI hL)
  · cases hs

theorem so_i2s (F : fC p s m args meth c X k) (hd : decode (mCode k) pc = .ok (.i2s, n)) (hn : okE k pc n (.i2s) x ps = true) (hs : stp cf k pc (.i2s, x, ps) L st h = some (.inl a)) (kk : gW p l e R s m args below meth c Q X k n0 sl0 a) : gW p l e R s m args below meth c Q X k n0 sl0 (pc, L, st, h) := by
  intro H locs ls hI hL
  have h1 := okN1 hn
  subst h1
  simp only [stp] at hs
  split at hs
  · simp only [Option.some.injEq, Sum.inl.injEq] at hs
    subst hs
    exact lv_i2s F.1 F.2.1 hd rfl (kk H locs ls hI hL)
  · cases hs

theorem so_i2c (F : fC p s m args meth c X k) (hd : decode (mCode k) pc = .ok (.i2c, n)) (hn : okE k pc n (.i2c) x ps = true) (hs : stp cf k pc (.i2c, x, ps) L st h = some (.inl a)) (kk : gW p l e R s m args below meth c Q X k n0 sl0 a) : gW p l e R s m args below meth c Q X k n0 sl0 (pc, L, st, h) := by
  intro H locs ls hI hL
  have h1 := okN1 hn
  subst h1
  simp only [stp] at hs
  split at hs
  · simp only [Option.some.injEq, Sum.inl.injEq] at hs
    subst hs
    exact lv_i2c F.1 F.2.1 hd rfl (kk H locs ls hI hL)
  · cases hs

theorem so_lshl (F : fC p s m args meth c X k) (hd : decode (mCode k) pc = .ok (.lshl, n)) (hn : okE k pc n (.lshl) x ps = true) (hs : stp cf k pc (.lshl, x, ps) L st h = some (.inl a)) (kk : gW p l e R s m args below meth c Q X k n0 sl0 a) : gW p l e R s m args below meth c Q X k n0 sl0 (pc, L, st, h) := by
  intro H locs ls hI hL
  have h1 := okN1 hn
  subst h1
  simp only [stp] at hs
  split at hs
  · simp only [Option.some.injEq, Sum.inl.injEq] at hs
    subst hs
    exact lv_lshl F.1 F.2.1 hd rfl (kk H locs ls hI hL)
  · cases hs

theorem so_lshr (F : fC p s m args meth c X k) (hd : decode (mCode k) pc = .ok (.lshr, n)) (hn : okE k pc n (.lshr) x ps = true) (hs : stp cf k pc (.lshr, x, ps) L st h = some (.inl a)) (kk : gW p l e R s m args below meth c Q X k n0 sl0 a) : gW p l e R s m args below meth c Q X k n0 sl0 (pc, L, st, h) := by
  intro H locs ls hI hL
  have h1 := okN1 hn
  subst h1
  simp only [stp] at hs
  split at hs
  · simp only [Option.some.injEq, Sum.inl.injEq] at hs
    subst hs
    exact lv_lshr F.1 F.2.1 hd rfl (kk H locs ls hI hL)
  · cases hs

theorem so_lushr (F : fC p s m args meth c X k) (hd : decode (mCode k) pc = .ok (.lushr, n)) (hn : okE k pc n (.lushr) x ps = true) (hs : stp cf k pc (.lushr, x, ps) L st h = some (.inl a)) (kk : gW p l e R s m args below meth c Q X k n0 sl0 a) : gW p l e R s m args below meth c Q X k n0 sl0 (pc, L, st, h) := by
  intro H locs ls hI hL
  have h1 := okN1 hn
  subst h1
  simp only [stp] at hs
  split at hs
  · simp only [Option.some.injEq, Sum.inl.injEq] at hs
    subst hs
    exact lv_lushr F.1 F.2.1 hd rfl (kk H locs ls hI hL)
  · cases hs

theorem so_lcmp (F : fC p s m args meth c X k) (hd : decode (mCode k) pc = .ok (.lcmp, n)) (hn : okE k pc n (.lcmp) x ps = true) (hs : stp cf k pc (.lcmp, x, ps) L st h = some (.inl a)) (kk : gW p l e R s m args below meth c Q X k n0 sl0 a) : gW p l e R s m args below meth c Q X k n0 sl0 (pc, L, st, h) := by
  intro H locs ls hI hL
  have h1 := okN1 hn
  subst h1
  simp only [stp] at hs
  split at hs
  · simp only [Option.some.injEq, Sum.inl.injEq] at hs
    subst hs
    exact W.lcmp F.1 F.2.1 hd (kk H locs ls hI hL)
  · cases hs

theorem so_idiv (F : fC p s m args meth c X k) (hd : decode (mCode k) pc = .ok (.idiv, n)) (hn : okE k pc n (.idiv) x ps = true) (hs : stp cf k pc (.idiv, x, ps) L st h = some (.inl a)) (kk : gW p l e R s m args below meth c Q X k n0 sl0 a) : gW p l e R s m args below meth c Q X k n0 sl0 (pc, L, st, h) := by
  intro H locs ls hI hL
  have h1 := okN1 hn
  subst h1
  simp only [stp] at hs
  split at hs
  · split at hs
    · cases hs
    · rename_i hne
      simp only [Option.some.injEq, Sum.inl.injEq] at hs
      subst hs
      exact lv_idiv F.1 F.2.1 hd hne (kk H locs ls hI hL)
  · cases hs

theorem so_irem (F : fC p s m args meth c X k) (hd : decode (mCode k) pc = .ok (.irem, n)) (hn : okE k pc n (.irem) x ps = true) (hs : stp cf k pc (.irem, x, ps) L st h = some (.inl a)) (kk : gW p l e R s m args below meth c Q X k n0 sl0 a) : gW p l e R s m args below meth c Q X k n0 sl0 (pc, L, st, h) := by
  intro H locs ls hI hL
  have h1 := okN1 hn
  subst h1
  simp only [stp] at hs
  split at hs
  · split at hs
    · cases hs
    · rename_i hne
      simp only [Option.some.injEq, Sum.inl.injEq] at hs
      subst hs
      exact lv_irem F.1 F.2.1 hd hne (kk H locs ls hI hL)
  · cases hs

theorem so_dup (F : fC p s m args meth c X k) (hd : decode (mCode k) pc = .ok (.dup, n)) (hn : okE k pc n (.dup) x ps = true) (hs : stp cf k pc (.dup, x, ps) L st h = some (.inl a)) (kk : gW p l e R s m args below meth c Q X k n0 sl0 a) : gW p l e R s m args below meth c Q X k n0 sl0 (pc, L, st, h) := by
  intro H locs ls hI hL
  have h1 := okN1 hn
  subst h1
  simp only [stp] at hs
  split at hs
  · simp only [Option.some.injEq, Sum.inl.injEq] at hs
    subst hs
    exact lv_dup F.1 F.2.1 hd rfl (kk H locs ls hI hL)
  · simp only [Option.some.injEq, Sum.inl.injEq] at hs
    subst hs
    exact lv_dup F.1 F.2.1 hd rfl (kk H locs ls hI hL)
  · cases hs

theorem so_dup2 (F : fC p s m args meth c X k) (hd : decode (mCode k) pc = .ok (.dup2, n)) (hn : okE k pc n (.dup2) x ps = true) (hs : stp cf k pc (.dup2, x, ps) L st h = some (.inl a)) (kk : gW p l e R s m args below meth c Q X k n0 sl0 a) : gW p l e R s m args below meth c Q X k n0 sl0 (pc, L, st, h) := by
  intro H locs ls hI hL
  have h1 := okN1 hn
  subst h1
  simp only [stp] at hs
  split at hs
  · simp only [Option.some.injEq, Sum.inl.injEq] at hs
    subst hs
    exact lv_dup2_11 F.1 F.2.1 hd rfl rfl (kk H locs ls hI hL)
  · cases hs

theorem so_pop (F : fC p s m args meth c X k) (hd : decode (mCode k) pc = .ok (.pop, n)) (hn : okE k pc n (.pop) x ps = true) (hs : stp cf k pc (.pop, x, ps) L st h = some (.inl a)) (kk : gW p l e R s m args below meth c Q X k n0 sl0 a) : gW p l e R s m args below meth c Q X k n0 sl0 (pc, L, st, h) := by
  intro H locs ls hI hL
  have h1 := okN1 hn
  subst h1
  simp only [stp] at hs
  split at hs
  · simp only [Option.some.injEq, Sum.inl.injEq] at hs
    subst hs
    exact lv_pop F.1 F.2.1 hd rfl (kk H locs ls hI hL)
  · cases hs

theorem so_goto {o : Int} (F : fC p s m args meth c X k) (hd : decode (mCode k) pc = .ok (.goto o, n)) (hn : okE k pc n (.goto o) x ps = true) (hs : stp cf k pc (.goto o, x, ps) L st h = some (.inl a)) (kk : gW p l e R s m args below meth c Q X k n0 sl0 a) : gW p l e R s m args below meth c Q X k n0 sl0 (pc, L, st, h) := by
  intro H locs ls hI hL
  simp only [okE, Bool.and_eq_true] at hn
  obtain ⟨h1, h2⟩ := hn
  have h1 := okN3 h1
  subst h1
  simp only [stp, Option.some.injEq, Sum.inl.injEq] at hs
  subst hs
  exact lv_goto F.1 F.2.1 hd (tg_of h2) (kk H locs ls hI hL)

theorem so_if_icmp {q : ClassFile.Cond} {o : Int} (F : fC p s m args meth c X k) (hd : decode (mCode k) pc = .ok (.if_icmp q o, n)) (hn : okE k pc n (.if_icmp q o) x ps = true) (hs : stp cf k pc (.if_icmp q o, x, ps) L st h = some (.inl a)) (kk : gW p l e R s m args below meth c Q X k n0 sl0 a) : gW p l e R s m args below meth c Q X k n0 sl0 (pc, L, st, h) := by
  intro H locs ls hI hL
  simp only [okE, Bool.and_eq_true] at hn
  obtain ⟨h1, h2⟩ := hn
  have h1 := okN3 h1
  subst h1
  simp only [stp] at hs
  split at hs
  · simp only [Option.some.injEq, Sum.inl.injEq] at hs
    subst hs
    have h9 := kk H locs ls hI hL
    cases q with
    | eq => exact lv_icmp_eq F.1 F.2.1 hd (tg_of h2) (fun hc => by simp only [brc] at h9; rw [if_pos hc] at h9; exact h9) (fun hc => by simp only [brc] at h9; rw [if_neg hc] at h9; exact h9)
    | ne => exact lv_icmp_ne F.1 F.2.1 hd (tg_of h2) (fun hc => by simp only [brc] at h9; rw [if_neg hc] at h9; exact h9) (fun hc => by simp only [brc] at h9; rw [if_pos hc] at h9; exact h9)
    | lt => exact lv_icmp_lt F.1 F.2.1 hd (tg_of h2) (fun hc => by simp only [brc] at h9; rw [if_pos hc] at h9; exact h9) (fun hc => by simp only [brc] at h9; rw [if_neg hc] at h9; exact h9)
    | ge => exact lv_icmp_ge F.1 F.2.1 hd (tg_of h2) (fun hc => by simp only [brc] at h9; rw [if_neg (Int32.not_lt.mpr hc)] at h9; exact h9) (fun hc => by simp only [brc] at h9; rw [if_pos (Int32.not_le.mp hc)] at h9; exact h9)
    | gt => exact lv_icmp_gt F.1 F.2.1 hd (tg_of h2) (fun hc => by simp only [brc] at h9; rw [if_pos hc] at h9; exact h9) (fun hc => by simp only [brc] at h9; rw [if_neg hc] at h9; exact h9)
    | le => exact lv_icmp_le F.1 F.2.1 hd (tg_of h2) (fun hc => by simp only [brc] at h9; rw [if_neg (Int32.not_lt.mpr hc)] at h9; exact h9) (fun hc => by simp only [brc] at h9; rw [if_pos (Int32.not_le.mp hc)] at h9; exact h9)
  · cases hs

theorem so_ifCond {q : ClassFile.Cond} {o : Int} (F : fC p s m args meth c X k) (hd : decode (mCode k) pc = .ok (.ifCond q o, n)) (hn : okE k pc n (.ifCond q o) x ps = true) (hs : stp cf k pc (.ifCond q o, x, ps) L st h = some (.inl a)) (kk : gW p l e R s m args below meth c Q X k n0 sl0 a) : gW p l e R s m args below meth c Q X k n0 sl0 (pc, L, st, h) := by
  intro H locs ls hI hL
  simp only [okE, Bool.and_eq_true] at hn
  obtain ⟨h1, h2⟩ := hn
  have h1 := okN3 h1
  subst h1
  simp only [stp] at hs
  split at hs
  · simp only [Option.some.injEq, Sum.inl.injEq] at hs
    subst hs
    have h9 := kk H locs ls hI hL
    cases q with
    | eq => exact lv_if_eq F.1 F.2.1 hd (tg_of h2) (fun hc => by simp only [brc] at h9; rw [if_pos hc] at h9; exact h9) (fun hc => by simp only [brc] at h9; rw [if_neg hc] at h9; exact h9)
    | ne => exact lv_if_ne F.1 F.2.1 hd (tg_of h2) (fun hc => by simp only [brc] at h9; rw [if_neg hc] at h9; exact h9) (fun hc => by simp only [brc] at h9; rw [if_pos hc] at h9; exact h9)
    | lt => exact lv_if_lt F.1 F.2.1 hd (tg_of h2) (fun hc => by simp only [brc] at h9; rw [if_pos hc] at h9; exact h9) (fun hc => by simp only [brc] at h9; rw [if_neg hc] at h9; exact h9)
    | ge => exact lv_if_ge F.1 F.2.1 hd (tg_of h2) (fun hc => by simp only [brc] at h9; rw [if_neg (Int32.not_lt.mpr hc)] at h9; exact h9) (fun hc => by simp only [brc] at h9; rw [if_pos (Int32.not_le.mp hc)] at h9; exact h9)
    | gt => exact lv_if_gt F.1 F.2.1 hd (tg_of h2) (fun hc => by simp only [brc] at h9; rw [if_pos hc] at h9; exact h9) (fun hc => by simp only [brc] at h9; rw [if_neg hc] at h9; exact h9)
    | le => exact lv_if_le F.1 F.2.1 hd (tg_of h2) (fun hc => by simp only [brc] at h9; rw [if_neg (Int32.not_lt.mpr hc)] at h9; exact h9) (fun hc => by simp only [brc] at h9; rw [if_pos (Int32.not_le.mp hc)] at h9; exact h9)
  · cases hs

theorem swt_tb {y : Int32} {d : Nat} : ∀ (l2 : List Int) (lo : Int), -2147483648 ≤ lo → lo + (l2.length : Int) ≤ 2147483648 →
    (∀ o, l2[(y.toInt - lo).toNat]? = some o → lo ≤ y.toInt → swt y (tbS l2 lo pc) d = ((pc : Int) + o).toNat) ∧ (y.toInt < lo ∨ lo + (l2.length : Int) ≤ y.toInt → swt y (tbS l2 lo pc) d = d) := by
  intro l2
  induction l2 with
  | nil =>
    intro lo h1 h2
    exact ⟨fun o ho => by simp at ho, fun _ => rfl⟩
  | cons o1 l2 ih =>
    intro lo h1 h2
    simp only [List.length_cons, Int.natCast_add, Int.cast_ofNat_Int] at h2
    have hcast : (Int32.ofInt lo).toInt = lo := Int32.toInt_ofInt_of_le (by show _ ≤ _; omega) (by show _ < _; omega)
    obtain ⟨g1, g2⟩ := ih (lo + 1) (by omega) (by omega)
    refine ⟨fun o ho hle => ?_, fun hr => ?_⟩
    · by_cases he : y.toInt = lo
      · have : y = Int32.ofInt lo := by apply Int32.toInt_inj.mp; rw [hcast]; exact he
        show (if y = Int32.ofInt lo then ((pc : Int) + o1).toNat else _) = _
        rw [if_pos this]
        rw [he, Int.sub_self] at ho
        simp at ho
        rw [ho]
      · have : ¬ y = Int32.ofInt lo := fun q => he (by rw [q, hcast])
        show (if y = Int32.ofInt lo then ((pc : Int) + o1).toNat else _) = _
        rw [if_neg this]
        refine g1 o ?_ (by omega)
        have e : (y.toInt - lo).toNat = (y.toInt - (lo + 1)).toNat + 1 := by omega
        rw [e] at ho
        simpa using ho
    · have : ¬ y = Int32.ofInt lo := fun q => by
        have h5 : y.toInt = lo := by rw [q, hcast]
        simp only [List.length_cons, Int.natCast_add, Int.cast_ofNat_Int] at hr
        omega
      show (if y = Int32.ofInt lo then ((pc : Int) + o1).toNat else _) = _
      rw [if_neg this]
      refine g2 ?_
      simp only [List.length_cons, Int.natCast_add, Int.cast_ofNat_Int] at hr
      omega

theorem so_tableswitch {d lo hi : Int} {offs : Array Int} (F : fC p s m args meth c X k) (hd : decode (mCode k) pc = .ok (.tableswitch d lo hi offs, n)) (hn : okE k pc n (.tableswitch d lo hi offs) x ps = true) (hs : stp cf k pc (.tableswitch d lo hi offs, x, ps) L st h = some (.inl a)) (kk : gW p l e R s m args below meth c Q X k n0 sl0 a) : gW p l e R s m args below meth c Q X k n0 sl0 (pc, L, st, h) := by
  intro H locs ls hI hL
  simp only [okE, Bool.and_eq_true, decide_eq_true_eq] at hn
  obtain ⟨⟨⟨⟨⟨⟨h1, h2⟩, h3⟩, h4⟩, h5⟩, h6⟩, h7⟩ := hn
  simp only [stp] at hs
  split at hs
  · rename_i y r
    simp only [Option.some.injEq, Sum.inl.injEq] at hs
    subst hs
    subst h3
    have h9 := kk H locs ls hI hL
    obtain ⟨g1, g2⟩ := swt_tb (pc := pc) (y := y) (d := x.toNat) offs.toList lo h5 (by omega)
    by_cases q1 : y.toInt < lo
    · simp only at h9
      rw [g2 (Or.inl q1)] at h9
      exact lv_tableOut F.1 F.2.1 hd (Or.inl q1) (by rw [h2, tN h1]) h9
    · by_cases q2 : hi < y.toInt
      · simp only at h9
        rw [g2 (Or.inr (by omega))] at h9
        exact lv_tableOut F.1 F.2.1 hd (Or.inr q2) (by rw [h2, tN h1]) h9
      · have hlt : (y.toInt - lo).toNat < offs.toList.length := by omega
        have ho : offs.toList[(y.toInt - lo).toNat]? = some offs.toList[(y.toInt - lo).toNat] := List.getElem?_eq_getElem hlt
        have h7' := List.all_eq_true.mp h7 _ (List.mem_of_getElem? ho)
        simp only [decide_eq_true_eq] at h7'
        simp only at h9
        rw [g1 _ ho (by omega)] at h9
        exact lv_tableIn F.1 F.2.1 hd q1 q2 (by rw [← Array.getElem?_toList]; exact ho) (by rw [tN h7']) h9
  · cases hs

theorem swt_lk {y : Int32} {d : Nat} {dd : Int} (hdd : (pc : Int) + dd = (d : Int)) : ∀ (l2 : List (Int × Int)), (∀ q ∈ l2, 0 ≤ (pc : Int) + q.2 ∧ -2147483648 ≤ q.1 ∧ q.1 ≤ 2147483647) →
    (pc : Int) + Op.lookupswitch.offset l2 dd y.toInt = ((swt y (l2.map fun q => (q.1, ((pc : Int) + q.2).toNat)) d : Nat) : Int) := by
  intro l2
  induction l2 with
  | nil => intro _; exact hdd
  | cons q l2 ih =>
    intro hq
    obtain ⟨h1, h2, h3⟩ := hq q List.mem_cons_self
    have hcast : (Int32.ofInt q.1).toInt = q.1 := Int32.toInt_ofInt_of_le (by show _ ≤ _; omega) (by show _ < _; omega)
    have ih' := ih (fun z hz => hq z (List.mem_cons_of_mem _ hz))
    show _ = (((if y = Int32.ofInt q.1 then ((pc : Int) + q.2).toNat else swt y (l2.map fun q => (q.1, ((pc : Int) + q.2).toNat)) d) : Nat) : Int)
    by_cases he : y = Int32.ofInt q.1
    · rw [if_pos he]
      have e2 : (q.1 == y.toInt) = true := by rw [he, hcast]; simp
      have e3 : Op.lookupswitch.offset (q :: l2) dd y.toInt = q.2 := by
        have e4 : q.1 = y.toInt := by simpa using e2
        simp [Op.lookupswitch.offset, e4]
      rw [e3]; omega
    · rw [if_neg he]
      have e2 : (q.1 == y.toInt) = false := by
        simp only [beq_eq_false_iff_ne, ne_eq]
        intro z
        exact he (by apply Int32.toInt_inj.mp; rw [hcast]; exact z.symm)
      have e3 : Op.lookupswitch.offset (q :: l2) dd y.toInt = Op.lookupswitch.offset l2 dd y.toInt := by
        have e4 : ¬ q.1 = y.toInt := by simpa using e2
        simp [Op.lookupswitch.offset, e4]
      rw [e3]
      exact ih'

theorem so_lookupswitch {d : Int} {prs : Array (Int × Int)} (F : fC p s m args meth c X k) (hd : decode (mCode k) pc = .ok (.lookupswitch d prs, n)) (hn : okE k pc n (.lookupswitch d prs) x ps = true) (hs : stp cf k pc (.lookupswitch d prs, x, ps) L st h = some (.inl a)) (kk : gW p l e R s m args below meth c Q X k n0 sl0 a) : gW p l e R s m args below meth c Q X k n0 sl0 (pc, L, st, h) := by
  intro H locs ls hI hL
  simp only [okE, Bool.and_eq_true, decide_eq_true_eq] at hn
  obtain ⟨⟨⟨⟨h1, h2⟩, h3⟩, h4⟩, h5⟩ := hn
  simp only [stp] at hs
  split at hs
  · rename_i y r
    simp only [Option.some.injEq, Sum.inl.injEq] at hs
    subst hs
    subst h3
    have h9 := kk H locs ls hI hL
    refine lv_lookup F.1 F.2.1 hd h5 rfl (swt_lk (by rw [h2, tN h1]) prs.toList (fun q hq => ?_)) h9
    have h6 := List.all_eq_true.mp h4 q hq
    simp only [Bool.and_eq_true, decide_eq_true_eq] at h6
    exact ⟨h6.1.1, h6.1.2, h6.2⟩
  · cases hs

end STP
