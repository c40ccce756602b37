/-! the program's data, checked against the class files' bytes and the tables' words -/
def tbS : List Int → Int → Int → List (Int × Nat)
  | [], _, _ => []
  | o :: l, lo, pc => (lo, (pc + o).toNat) :: tbS l (lo + 1) pc
def tgE (pc : Nat) (off x : Int) : Bool := decide ((pc : Int) + off = x) && decide (0 ≤ x)
def okE (k pc n : Nat) (i : Instr) (x : Int) (ps : List (Int × Nat)) : Bool := match i with
  | .iconst c => n == 1 && decide (x = c)
  | .bipush c => n == 2 && decide ((Int8.ofInt c).toInt32 = Int32.ofInt x)
  | .sipush c => n == 3 && decide ((Int16.ofInt c).toInt32 = Int32.ofInt x)
  | .lconst _ => n == 1
  | .ldc j => n == 2 && (match ps with
    | [] => decide ((mOwn k, j, x) ∈ CNk)
    | _ => decide (0 ≤ x) && decide ((mOwn k, j, x.toNat) ∈ SRk))
  | .ldc_w j => n == 3 && decide ((mOwn k, j, x) ∈ CNk)
  | .ldc2_w j => n == 3 && decide ((mOwn k, j, x) ∈ CLk)
  | .iload _ => n == 2
  | .iload_n _ => n == 1
  | .aload _ => n == 2
  | .aload_n _ => n == 1
  | .lload _ => n == 2
  | .lload_n _ => n == 1
  | .istore _ => n == 2
  | .istore_n _ => n == 1
  | .astore _ => n == 2
  | .astore_n _ => n == 1
  | .iinc _ _ => n == 3
  | .iadd | .isub | .imul | .idiv | .irem | .ineg | .iand | .ior | .ixor | .ishl | .ishr | .iushr => n == 1
  | .i2l | .l2i | .i2b | .i2s | .i2c | .land | .lor | .lshl | .lshr | .lushr | .lcmp => n == 1
  | .dup | .dup2 | .pop | .arraylength | .iaload | .baload | .aaload | .iastore | .aastore => n == 1
  | .ireturn | .areturn | .return_ => n == 1
  | .goto o => n == 3 && tgE pc o x
  | .if_icmp _ o => n == 3 && tgE pc o x
  | .ifCond _ o => n == 3 && tgE pc o x
  | .getfield j => n == 3 && decide (0 ≤ x) && decide ((mOwn k, j, x.toNat) ∈ FLk)
  | .putfield j => n == 3 && decide (0 ≤ x) && decide ((mOwn k, j, x.toNat) ∈ FLk) && decide (x.toNat / 32 < 11) && (if (cTt (x.toNat / 32) (x.toNat % 32)).2.2.2 then decide ((mYn k).name = "<init>") && decide ((cTt (x.toNat / 32) (x.toNat % 32)).1 = cNm (mOwn k)) else true)
  | .getstatic j => n == 3 && decide (0 ≤ x) && decide ((mOwn k, j, x.toNat) ∈ STk)
  | .invokevirtual j => n == 3 && (decide (x = -9) || (decide (0 ≤ x) && decide ((mOwn k, j, x.toNat) ∈ MLk) && !(mSt x.toNat) && decide ((mYn x.toNat).name ≠ "<init>") && decide (mOwn x.toNat < 12)))
  | .invokestatic j => n == 3 && (decide (x = -9) || (decide (x = -2) && decide ((mOwn k, j) ∈ ALk)) || (decide (x = -3) && decide ((mOwn k, j) ∈ XLk)) || (decide (x = -4) && decide ((mOwn k, j) ∈ YLk)) || (decide (0 ≤ x) && (decide ((mOwn k, j, x.toNat) ∈ MLk) || decide ((mOwn k, j, x.toNat) ∈ NLk)) && mSt x.toNat))
  | .invokespecial j => n == 3 && ((decide (x = -1) && decide ((mOwn k, j) ∈ OLk)) || (decide (0 ≤ x) && decide ((mOwn k, j, x.toNat) ∈ MLk) && !(mSt x.toNat) && decide ((mYn x.toNat).name = "<init>") && decide (mRet x.toNat = none)))
  | .new j => n == 3 && decide (0 ≤ x) && decide ((mOwn k, j, x.toNat) ∈ CSk) && decide (x.toNat < 11)
  | .newarray t => n == 2 && decide (t = .int)
  | .anewarray j => n == 3 && ((decide (x = 2) && decide ((mOwn k, j, 5) ∈ CSk)) || (decide (x = 3) && decide ((mOwn k, j, 6) ∈ CSk)))
  | .tableswitch d lo hi offs => decide (0 ≤ x) && decide ((pc : Int) + d = x) && decide (ps = tbS offs.toList lo pc) && decide (lo + (offs.toList.length : Int) = hi + 1) && decide (-2147483648 ≤ lo) && decide (hi ≤ 2147483647) && offs.toList.all (fun o => decide (0 ≤ (pc : Int) + o))
  | .lookupswitch d prs => decide (0 ≤ x) && decide ((pc : Int) + d = x) && decide (ps = prs.toList.map (fun q => (q.1, ((pc : Int) + q.2).toNat))) && prs.toList.all (fun q => decide (0 ≤ (pc : Int) + q.2) && decide (-2147483648 ≤ q.1) && decide (q.1 ≤ 2147483647)) && (prs.toList.zip (prs.toList.drop 1)).all (fun (a, next) => a.1 < next.1)
  | _ => false
def chkE (k pc : Nat) (e : pE) : Bool := match decode (mCode k) pc with
  | .ok (i, n) => decide (i = e.1) && okE k pc n e.1 e.2.1 e.2.2
  | _ => false
def chkM (k : Nat) : Bool := (pCode k).all fun row => row.all fun q => chkE k q.1 q.2
theorem chk_spec {k pc : Nat} {e : pE} (h : chkE k pc e = true) : ∃ n, decode (mCode k) pc = .ok (e.1, n) ∧ okE k pc n e.1 e.2.1 e.2.2 = true := by
  unfold chkE at h
  split at h
  · rename_i i n hd
    simp only [Bool.and_eq_true, decide_eq_true_eq] at h
    obtain ⟨h1, h2⟩ := h
    subst h1
    exact ⟨n, hd, h2⟩
  · cases h
set_option maxRecDepth 100000 in
theorem chk_c0 : ((List.range 16).all fun j => chkM (0 * 16 + j)) = true := by decide +kernel
set_option maxRecDepth 100000 in
theorem chk_c1 : ((List.range 16).all fun j => chkM (1 * 16 + j)) = true := by decide +kernel
set_option maxRecDepth 100000 in
theorem chk_c2 : ((List.range 16).all fun j => chkM (2 * 16 + j)) = true := by decide +kernel
set_option maxRecDepth 100000 in
theorem chk_c3 : ((List.range 16).all fun j => chkM (3 * 16 + j)) = true := by decide +kernel
set_option maxRecDepth 100000 in
theorem chk_c4 : ((List.range 16).all fun j => chkM (4 * 16 + j)) = true := by decide +kernel
set_option maxRecDepth 100000 in
theorem chk_c5 : ((List.range 16).all fun j => chkM (5 * 16 + j)) = true := by decide +kernel
set_option maxRecDepth 100000 in
theorem chk_c6 : ((List.range 16).all fun j => chkM (6 * 16 + j)) = true := by decide +kernel
set_option maxRecDepth 100000 in
theorem chk_c7 : ((List.range 16).all fun j => chkM (7 * 16 + j)) = true := by decide +kernel
set_option maxRecDepth 100000 in
theorem chk_c8 : ((List.range 16).all fun j => chkM (8 * 16 + j)) = true := by decide +kernel
set_option maxRecDepth 100000 in
theorem chk_c9 : ((List.range 16).all fun j => chkM (9 * 16 + j)) = true := by decide +kernel
set_option maxRecDepth 100000 in
theorem chk_c10 : ((List.range 16).all fun j => chkM (10 * 16 + j)) = true := by decide +kernel
set_option maxRecDepth 100000 in
theorem chk_c11 : ((List.range 16).all fun j => chkM (11 * 16 + j)) = true := by decide +kernel
set_option maxRecDepth 100000 in
theorem chk_c12 : ((List.range 16).all fun j => chkM (12 * 16 + j)) = true := by decide +kernel
set_option maxRecDepth 100000 in
theorem chk_c13 : ((List.range 16).all fun j => chkM (13 * 16 + j)) = true := by decide +kernel
set_option maxRecDepth 100000 in
theorem chk_c14 : ((List.range 16).all fun j => chkM (14 * 16 + j)) = true := by decide +kernel
set_option maxRecDepth 100000 in
theorem chk_c15 : ((List.range 16).all fun j => chkM (15 * 16 + j)) = true := by decide +kernel
theorem chk_of {c : Nat} (h : ((List.range 16).all fun j => chkM (c * 16 + j)) = true) {k : Nat} (hk : k / 16 = c) : chkM k = true := by
  have h1 := List.all_eq_true.mp h (k % 16) (List.mem_range.mpr (Nat.mod_lt _ (by decide)))
  have e : c * 16 + k % 16 = k := by omega
  rw [e] at h1
  exact h1
def chkR (r : Nat) : Bool := ((pCode 258).getD r []).all fun q => chkE 258 q.1 q.2
set_option maxRecDepth 100000 in
theorem chk_Ln : (pCode 258).length = 44 := by decide +kernel
set_option maxRecDepth 100000 in
theorem chk_L0 : chkR 0 = true := by decide +kernel
set_option maxRecDepth 100000 in
theorem chk_L1 : chkR 1 = true := by decide +kernel
set_option maxRecDepth 100000 in
theorem chk_L2 : chkR 2 = true := by decide +kernel
set_option maxRecDepth 100000 in
theorem chk_L3 : chkR 3 = true := by decide +kernel
set_option maxRecDepth 100000 in
theorem chk_L4 : chkR 4 = true := by decide +kernel
set_option maxRecDepth 100000 in
theorem chk_L5 : chkR 5 = true := by decide +kernel
set_option maxRecDepth 100000 in
theorem chk_L6 : chkR 6 = true := by decide +kernel
set_option maxRecDepth 100000 in
theorem chk_L7 : chkR 7 = true := by decide +kernel
set_option maxRecDepth 100000 in
theorem chk_L8 : chkR 8 = true := by decide +kernel
set_option maxRecDepth 100000 in
theorem chk_L9 : chkR 9 = true := by decide +kernel
set_option maxRecDepth 100000 in
theorem chk_L10 : chkR 10 = true := by decide +kernel
set_option maxRecDepth 100000 in
theorem chk_L11 : chkR 11 = true := by decide +kernel
set_option maxRecDepth 100000 in
theorem chk_L12 : chkR 12 = true := by decide +kernel
set_option maxRecDepth 100000 in
theorem chk_L13 : chkR 13 = true := by decide +kernel
set_option maxRecDepth 100000 in
theorem chk_L14 : chkR 14 = true := by decide +kernel
set_option maxRecDepth 100000 in
theorem chk_L15 : chkR 15 = true := by decide +kernel
set_option maxRecDepth 100000 in
theorem chk_L16 : chkR 16 = true := by decide +kernel
set_option maxRecDepth 100000 in
theorem chk_L17 : chkR 17 = true := by decide +kernel
set_option maxRecDepth 100000 in
theorem chk_L18 : chkR 18 = true := by decide +kernel
set_option maxRecDepth 100000 in
theorem chk_L19 : chkR 19 = true := by decide +kernel
set_option maxRecDepth 100000 in
theorem chk_L20 : chkR 20 = true := by decide +kernel
set_option maxRecDepth 100000 in
theorem chk_L21 : chkR 21 = true := by decide +kernel
set_option maxRecDepth 100000 in
theorem chk_L22 : chkR 22 = true := by decide +kernel
set_option maxRecDepth 100000 in
theorem chk_L23 : chkR 23 = true := by decide +kernel
set_option maxRecDepth 100000 in
theorem chk_L24 : chkR 24 = true := by decide +kernel
set_option maxRecDepth 100000 in
theorem chk_L25 : chkR 25 = true := by decide +kernel
set_option maxRecDepth 100000 in
theorem chk_L26 : chkR 26 = true := by decide +kernel
set_option maxRecDepth 100000 in
theorem chk_L27 : chkR 27 = true := by decide +kernel
set_option maxRecDepth 100000 in
theorem chk_L28 : chkR 28 = true := by decide +kernel
set_option maxRecDepth 100000 in
theorem chk_L29 : chkR 29 = true := by decide +kernel
set_option maxRecDepth 100000 in
theorem chk_L30 : chkR 30 = true := by decide +kernel
set_option maxRecDepth 100000 in
theorem chk_L31 : chkR 31 = true := by decide +kernel
set_option maxRecDepth 100000 in
theorem chk_L32 : chkR 32 = true := by decide +kernel
set_option maxRecDepth 100000 in
theorem chk_L33 : chkR 33 = true := by decide +kernel
set_option maxRecDepth 100000 in
theorem chk_L34 : chkR 34 = true := by decide +kernel
set_option maxRecDepth 100000 in
theorem chk_L35 : chkR 35 = true := by decide +kernel
set_option maxRecDepth 100000 in
theorem chk_L36 : chkR 36 = true := by decide +kernel
set_option maxRecDepth 100000 in
theorem chk_L37 : chkR 37 = true := by decide +kernel
set_option maxRecDepth 100000 in
theorem chk_L38 : chkR 38 = true := by decide +kernel
set_option maxRecDepth 100000 in
theorem chk_L39 : chkR 39 = true := by decide +kernel
set_option maxRecDepth 100000 in
theorem chk_L40 : chkR 40 = true := by decide +kernel
set_option maxRecDepth 100000 in
theorem chk_L41 : chkR 41 = true := by decide +kernel
set_option maxRecDepth 100000 in
theorem chk_L42 : chkR 42 = true := by decide +kernel
set_option maxRecDepth 100000 in
theorem chk_L43 : chkR 43 = true := by decide +kernel
theorem chk_L {r : Nat} (h : r < 44) : chkR r = true := by
  match r, h with
  | 0, _ => exact chk_L0
  | 1, _ => exact chk_L1
  | 2, _ => exact chk_L2
  | 3, _ => exact chk_L3
  | 4, _ => exact chk_L4
  | 5, _ => exact chk_L5
  | 6, _ => exact chk_L6
  | 7, _ => exact chk_L7
  | 8, _ => exact chk_L8
  | 9, _ => exact chk_L9
  | 10, _ => exact chk_L10
  | 11, _ => exact chk_L11
  | 12, _ => exact chk_L12
  | 13, _ => exact chk_L13
  | 14, _ => exact chk_L14
  | 15, _ => exact chk_L15
  | 16, _ => exact chk_L16
  | 17, _ => exact chk_L17
  | 18, _ => exact chk_L18
  | 19, _ => exact chk_L19
  | 20, _ => exact chk_L20
  | 21, _ => exact chk_L21
  | 22, _ => exact chk_L22
  | 23, _ => exact chk_L23
  | 24, _ => exact chk_L24
  | 25, _ => exact chk_L25
  | 26, _ => exact chk_L26
  | 27, _ => exact chk_L27
  | 28, _ => exact chk_L28
  | 29, _ => exact chk_L29
  | 30, _ => exact chk_L30
  | 31, _ => exact chk_L31
  | 32, _ => exact chk_L32
  | 33, _ => exact chk_L33
  | 34, _ => exact chk_L34
  | 35, _ => exact chk_L35
  | 36, _ => exact chk_L36
  | 37, _ => exact chk_L37
  | 38, _ => exact chk_L38
  | 39, _ => exact chk_L39
  | 40, _ => exact chk_L40
  | 41, _ => exact chk_L41
  | 42, _ => exact chk_L42
  | 43, _ => exact chk_L43
  | r + 44, h => exact absurd h (by omega)
theorem allL {α : Type} (P : α → Bool) (C : List (List α)) (h : ∀ r, r < C.length → ((C.getD r []).all P) = true) : (C.all fun row => row.all P) = true := by
  refine List.all_eq_true.mpr fun row hr => ?_
  obtain ⟨i, hi⟩ := List.getElem?_of_mem hr
  have h1 := h i (List.getElem?_eq_some_iff.mp hi).1
  rw [List.getD_eq_getElem?_getD, hi] at h1
  exact h1
set_option maxRecDepth 100000 in
theorem chk_256 : chkM 256 = true := by decide +kernel
set_option maxRecDepth 100000 in
theorem chk_257 : chkM 257 = true := by decide +kernel
theorem chk_258 : chkM 258 = true := allL _ _ (fun r hr => chk_L (by rw [chk_Ln] at hr; exact hr))
theorem chk_all {k : Nat} (hk : k < 259) : chkM k = true := by
  by_cases h : k < 256
  · have h : k / 16 < 16 := by omega
    generalize hc : k / 16 = c at h
    match c, h, hc with
    | 0, _, hc => exact chk_of chk_c0 hc
    | 1, _, hc => exact chk_of chk_c1 hc
    | 2, _, hc => exact chk_of chk_c2 hc
    | 3, _, hc => exact chk_of chk_c3 hc
    | 4, _, hc => exact chk_of chk_c4 hc
    | 5, _, hc => exact chk_of chk_c5 hc
    | 6, _, hc => exact chk_of chk_c6 hc
    | 7, _, hc => exact chk_of chk_c7 hc
    | 8, _, hc => exact chk_of chk_c8 hc
    | 9, _, hc => exact chk_of chk_c9 hc
    | 10, _, hc => exact chk_of chk_c10 hc
    | 11, _, hc => exact chk_of chk_c11 hc
    | 12, _, hc => exact chk_of chk_c12 hc
    | 13, _, hc => exact chk_of chk_c13 hc
    | 14, _, hc => exact chk_of chk_c14 hc
    | 15, _, hc => exact chk_of chk_c15 hc
    | c + 16, h, _ => exact absurd h (by omega)
  · by_cases h : k = 256
    · subst h; exact chk_256
    · by_cases h : k = 257
      · subst h; exact chk_257
      · have h : k = 258 := by omega
        subst h; exact chk_258
theorem pFind_mem {pc : Nat} {e : pE} : ∀ {l : List (Nat × pE)}, pFind pc l = some e → (pc, e) ∈ l := by
  intro l
  induction l with
  | nil => intro h; cases h
  | cons q l ih =>
    intro h
    obtain ⟨p, x⟩ := q
    unfold pFind at h
    cases hb : Nat.beq p pc with
    | true =>
      rw [hb] at h
      have h1 : p = pc := Nat.eq_of_beq_eq_true hb
      have h2 : x = e := Option.some.inj h
      subst h1; subst h2
      exact List.mem_cons_self
    | false =>
      rw [hb] at h
      exact List.mem_cons_of_mem _ (ih h)
theorem pf_chk {pc i : Nat} {e : pE} (C : List (List (Nat × pE))) (P : Nat × pE → Bool) (h : (C.all fun row => row.all P) = true) (hf : pFind pc (C.getD i []) = some e) : P (pc, e) = true := by
  have h2 := pFind_mem hf
  rw [List.getD_eq_getElem?_getD] at h2
  cases hr : C[i]? with
  | none => rw [hr] at h2; simp at h2
  | some row =>
    rw [hr] at h2
    exact List.all_eq_true.mp (List.all_eq_true.mp h row (List.mem_of_getElem? hr)) _ h2
theorem pEnt_chk {k pc : Nat} {e : pE} (hk : k < 259) (h : pEnt k pc = some e) : chkE k pc e = true := pf_chk (pCode k) (fun q => chkE k q.1 q.2) (chk_all hk) h
def gT : List Cond := lw_tbl.filter goodWord
theorem gT_i {i : Nat} {w : Cond} (h : (decide (lw_tbl[i]? = some w) && goodWord w) = true) : w ∈ gT := by
  simp only [Bool.and_eq_true, decide_eq_true_eq] at h
  exact List.mem_filter.mpr ⟨List.mem_of_getElem? h.1, h.2⟩
