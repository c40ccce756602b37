/-! the rules: an instruction, an equation -/
/-- what a call answered, on the stack -/
def pv : Option Value → List Value → List Value
  | some v, r => v :: r
  | none, r => r
theorem pv_eq {v : Option Value} {r : List Value} : v.toList ++ r = pv v r := by cases v <;> rfl
section RUL
variable {d k pc pc' m : Nat} {x : Int} {ps : List (Int × Nat)} {L L' st : List Value} {h : pH} {Q : Option Value → pH → Prop} {E : pEv} {ro : Nat → Nat → Int32} {v y z : Int32} {w u : Int64}

theorem r_iconst {i : Int} (he : pEnt k pc = some (.iconst i, x, ps)) (hp : pc + 1 = pc') (hv : Int32.ofInt x = v) : wG d k (pc, L, st, h) Q = wG d k (pc', L, .int v :: st, h) Q := by
  subst hp
  subst hv
  exact wG_s he (fun cf => rfl)
theorem r_bipush {i : Int} (he : pEnt k pc = some (.bipush i, x, ps)) (hp : pc + 2 = pc') (hv : Int32.ofInt x = v) : wG d k (pc, L, st, h) Q = wG d k (pc', L, .int v :: st, h) Q := by
  subst hp
  subst hv
  exact wG_s he (fun cf => rfl)
theorem r_sipush {i : Int} (he : pEnt k pc = some (.sipush i, x, ps)) (hp : pc + 3 = pc') (hv : Int32.ofInt x = v) : wG d k (pc, L, st, h) Q = wG d k (pc', L, .int v :: st, h) Q := by
  subst hp
  subst hv
  exact wG_s he (fun cf => rfl)
theorem r_lconst {i : Fin 2} (he : pEnt k pc = some (.lconst i, x, ps)) (hp : pc + 1 = pc') (hv : Int64.ofNat (i : Nat) = w) : wG d k (pc, L, st, h) Q = wG d k (pc', L, .long w :: st, h) Q := by
  subst hp
  subst hv
  exact wG_s he (fun cf => rfl)
theorem r_ldc {i : Nat} (he : pEnt k pc = some (.ldc i, x, [])) (hp : pc + 2 = pc') (hv : Int32.ofInt x = v) : wG d k (pc, L, st, h) Q = wG d k (pc', L, .int v :: st, h) Q := by
  subst hp
  subst hv
  exact wG_s he (fun cf => rfl)
theorem r_ldcS {i s : Nat} {q : Int × Nat} (he : pEnt k pc = some (.ldc i, x, [q])) (hp : pc + 2 = pc') (hv : x.toNat = s) : wG d k (pc, L, st, h) Q = wG d k (pc', L, .ref s :: st, h) Q := by
  subst hp
  subst hv
  exact wG_s he (fun cf => rfl)
theorem r_ldc_w {i : Nat} (he : pEnt k pc = some (.ldc_w i, x, ps)) (hp : pc + 3 = pc') (hv : Int32.ofInt x = v) : wG d k (pc, L, st, h) Q = wG d k (pc', L, .int v :: st, h) Q := by
  subst hp
  subst hv
  exact wG_s he (fun cf => rfl)
theorem r_ldc2_w {i : Nat} (he : pEnt k pc = some (.ldc2_w i, x, ps)) (hp : pc + 3 = pc') (hv : Int64.ofInt x = w) : wG d k (pc, L, st, h) Q = wG d k (pc', L, .long w :: st, h) Q := by
  subst hp
  subst hv
  exact wG_s he (fun cf => rfl)
theorem r_iload {i : Nat} (he : pEnt k pc = some (.iload i, x, ps)) (hp : pc + 2 = pc') (hl : L[i]? = some (.int v)) : wG d k (pc, L, st, h) Q = wG d k (pc', L, .int v :: st, h) Q := by
  subst hp
  exact wG_s he (fun cf => by simp only [stp, hl])
theorem r_iload_n {i : Fin 4} (he : pEnt k pc = some (.iload_n i, x, ps)) (hp : pc + 1 = pc') (hl : L[(i : Nat)]? = some (.int v)) : wG d k (pc, L, st, h) Q = wG d k (pc', L, .int v :: st, h) Q := by
  subst hp
  exact wG_s he (fun cf => by simp only [stp, hl])
theorem r_lload {i : Nat} (he : pEnt k pc = some (.lload i, x, ps)) (hp : pc + 2 = pc') (hl : L[i]? = some (.long w)) : wG d k (pc, L, st, h) Q = wG d k (pc', L, .long w :: st, h) Q := by
  subst hp
  exact wG_s he (fun cf => by simp only [stp, hl])
theorem r_lload_n {i : Fin 4} (he : pEnt k pc = some (.lload_n i, x, ps)) (hp : pc + 1 = pc') (hl : L[(i : Nat)]? = some (.long w)) : wG d k (pc, L, st, h) Q = wG d k (pc', L, .long w :: st, h) Q := by
  subst hp
  exact wG_s he (fun cf => by simp only [stp, hl])
theorem r_aload {i q : Nat} (he : pEnt k pc = some (.aload i, x, ps)) (hp : pc + 2 = pc') (hl : L[i]? = some (.ref q)) : wG d k (pc, L, st, h) Q = wG d k (pc', L, .ref q :: st, h) Q := by
  subst hp
  exact wG_s he (fun cf => by simp only [stp, hl])
theorem r_aload_n {i : Fin 4} {q : Nat} (he : pEnt k pc = some (.aload_n i, x, ps)) (hp : pc + 1 = pc') (hl : L[(i : Nat)]? = some (.ref q)) : wG d k (pc, L, st, h) Q = wG d k (pc', L, .ref q :: st, h) Q := by
  subst hp
  exact wG_s he (fun cf => by simp only [stp, hl])
theorem r_istore {i : Nat} (he : pEnt k pc = some (.istore i, x, ps)) (hp : pc + 2 = pc') (hl : (decide (i < L.length) && nLg k i) = true) (hs : L.set i (.int v) = L') : wG d k (pc, L, .int v :: st, h) Q = wG d k (pc', L', st, h) Q := by
  subst hp
  subst hs
  simp only [Bool.and_eq_true, decide_eq_true_eq] at hl
  exact wG_s he (fun cf => by simp only [stp]; rw [if_pos hl])
theorem r_istore_n {i : Fin 4} (he : pEnt k pc = some (.istore_n i, x, ps)) (hp : pc + 1 = pc') (hl : (decide ((i : Nat) < L.length) && nLg k (i : Nat)) = true) (hs : L.set (i : Nat) (.int v) = L') : wG d k (pc, L, .int v :: st, h) Q = wG d k (pc', L', st, h) Q := by
  subst hp
  subst hs
  simp only [Bool.and_eq_true, decide_eq_true_eq] at hl
  exact wG_s he (fun cf => by simp only [stp]; rw [if_pos hl])
theorem r_astore {i q : Nat} (he : pEnt k pc = some (.astore i, x, ps)) (hp : pc + 2 = pc') (hl : (decide (i < L.length) && nLg k i) = true) (hs : L.set i (.ref q) = L') : wG d k (pc, L, .ref q :: st, h) Q = wG d k (pc', L', st, h) Q := by
  subst hp
  subst hs
  simp only [Bool.and_eq_true, decide_eq_true_eq] at hl
  exact wG_s he (fun cf => by simp only [stp]; rw [if_pos hl])
theorem r_astore_n {i : Fin 4} {q : Nat} (he : pEnt k pc = some (.astore_n i, x, ps)) (hp : pc + 1 = pc') (hl : (decide ((i : Nat) < L.length) && nLg k (i : Nat)) = true) (hs : L.set (i : Nat) (.ref q) = L') : wG d k (pc, L, .ref q :: st, h) Q = wG d k (pc', L', st, h) Q := by
  subst hp
  subst hs
  simp only [Bool.and_eq_true, decide_eq_true_eq] at hl
  exact wG_s he (fun cf => by simp only [stp]; rw [if_pos hl])
theorem r_iinc {i : Nat} {c : Int} (he : pEnt k pc = some (.iinc i c, x, ps)) (hp : pc + 3 = pc') (hl : nLg k i = true) (hg : L[i]? = some (.int v)) (hc : Int32.ofInt c = y) (hs : L.set i (.int (v + y)) = L') : wG d k (pc, L, st, h) Q = wG d k (pc', L', st, h) Q := by
  subst hp
  subst hc
  subst hs
  exact wG_s he (fun cf => by simp only [stp, hg]; rw [if_pos hl])
theorem r_iadd (he : pEnt k pc = some (.iadd, x, ps)) (hp : pc + 1 = pc') : wG d k (pc, L, .int y :: .int v :: st, h) Q = wG d k (pc', L, .int (v + y) :: st, h) Q := by
  subst hp
  exact wG_s he (fun cf => rfl)
theorem r_isub (he : pEnt k pc = some (.isub, x, ps)) (hp : pc + 1 = pc') : wG d k (pc, L, .int y :: .int v :: st, h) Q = wG d k (pc', L, .int (v - y) :: st, h) Q := by
  subst hp
  exact wG_s he (fun cf => rfl)
theorem r_imul (he : pEnt k pc = some (.imul, x, ps)) (hp : pc + 1 = pc') : wG d k (pc, L, .int y :: .int v :: st, h) Q = wG d k (pc', L, .int (v * y) :: st, h) Q := by
  subst hp
  exact wG_s he (fun cf => rfl)
theorem r_iand (he : pEnt k pc = some (.iand, x, ps)) (hp : pc + 1 = pc') : wG d k (pc, L, .int y :: .int v :: st, h) Q = wG d k (pc', L, .int (v &&& y) :: st, h) Q := by
  subst hp
  exact wG_s he (fun cf => rfl)
theorem r_ior (he : pEnt k pc = some (.ior, x, ps)) (hp : pc + 1 = pc') : wG d k (pc, L, .int y :: .int v :: st, h) Q = wG d k (pc', L, .int (v ||| y) :: st, h) Q := by
  subst hp
  exact wG_s he (fun cf => rfl)
theorem r_ixor (he : pEnt k pc = some (.ixor, x, ps)) (hp : pc + 1 = pc') : wG d k (pc, L, .int y :: .int v :: st, h) Q = wG d k (pc', L, .int (v ^^^ y) :: st, h) Q := by
  subst hp
  exact wG_s he (fun cf => rfl)
theorem r_ishl (he : pEnt k pc = some (.ishl, x, ps)) (hp : pc + 1 = pc') : wG d k (pc, L, .int y :: .int v :: st, h) Q = wG d k (pc', L, .int (v <<< (y &&& 31)) :: st, h) Q := by
  subst hp
  exact wG_s he (fun cf => rfl)
theorem r_ishr (he : pEnt k pc = some (.ishr, x, ps)) (hp : pc + 1 = pc') : wG d k (pc, L, .int y :: .int v :: st, h) Q = wG d k (pc', L, .int (v >>> (y &&& 31)) :: st, h) Q := by
  subst hp
  exact wG_s he (fun cf => rfl)
theorem r_iushr (he : pEnt k pc = some (.iushr, x, ps)) (hp : pc + 1 = pc') : wG d k (pc, L, .int y :: .int v :: st, h) Q = wG d k (pc', L, .int ((v.toUInt32 >>> (y.toUInt32 &&& Int32.toUInt32 31)).toInt32) :: st, h) Q := by
  subst hp
  exact wG_s he (fun cf => rfl)
theorem r_idiv (he : pEnt k pc = some (.idiv, x, ps)) (hp : pc + 1 = pc') (hy : ¬ y = 0) : wG d k (pc, L, .int y :: .int v :: st, h) Q = wG d k (pc', L, .int (v / y) :: st, h) Q := by
  subst hp
  exact wG_s he (fun cf => by simp only [stp]; rw [if_neg hy])
theorem r_irem (he : pEnt k pc = some (.irem, x, ps)) (hp : pc + 1 = pc') (hy : ¬ y = 0) : wG d k (pc, L, .int y :: .int v :: st, h) Q = wG d k (pc', L, .int (v - v / y * y) :: st, h) Q := by
  subst hp
  exact wG_s he (fun cf => by simp only [stp]; rw [if_neg hy])
theorem r_ineg (he : pEnt k pc = some (.ineg, x, ps)) (hp : pc + 1 = pc') : wG d k (pc, L, .int v :: st, h) Q = wG d k (pc', L, .int (-v) :: st, h) Q := by
  subst hp
  exact wG_s he (fun cf => rfl)
theorem r_i2l (he : pEnt k pc = some (.i2l, x, ps)) (hp : pc + 1 = pc') : wG d k (pc, L, .int v :: st, h) Q = wG d k (pc', L, .long v.toInt64 :: st, h) Q := by
  subst hp
  exact wG_s he (fun cf => rfl)
theorem r_l2i (he : pEnt k pc = some (.l2i, x, ps)) (hp : pc + 1 = pc') : wG d k (pc, L, .long w :: st, h) Q = wG d k (pc', L, .int w.toInt32 :: st, h) Q := by
  subst hp
  exact wG_s he (fun cf => rfl)
theorem r_i2b (he : pEnt k pc = some (.i2b, x, ps)) (hp : pc + 1 = pc') : wG d k (pc, L, .int v :: st, h) Q = wG d k (pc', L, .int v.toInt8.toInt32 :: st, h) Q := by
  subst hp
  exact wG_s he (fun cf => rfl)
theorem r_i2s (he : pEnt k pc = some (.i2s, x, ps)) (hp : pc + 1 = pc') : wG d k (pc, L, .int v :: st, h) Q = wG d k (pc', L, .int v.toInt16.toInt32 :: st, h) Q := by
  subst hp
  exact wG_s he (fun cf => rfl)
theorem r_i2c (he : pEnt k pc = some (.i2c, x, ps)) (hp : pc + 1 = pc') : wG d k (pc, L, .int v :: st, h) Q = wG d k (pc', L, .int (v.toUInt32 % 65536).toInt32 :: st, h) Q := by
  subst hp
  exact wG_s he (fun cf => rfl)
theorem r_land (he : pEnt k pc = some (.land, x, ps)) (hp : pc + 1 = pc') : wG d k (pc, L, .long u :: .long w :: st, h) Q = wG d k (pc', L, .long (w &&& u) :: st, h) Q := by
  subst hp
  exact wG_s he (fun cf => rfl)
theorem r_lor (he : pEnt k pc = some (.lor, x, ps)) (hp : pc + 1 = pc') : wG d k (pc, L, .long u :: .long w :: st, h) Q = wG d k (pc', L, .long (w ||| u) :: st, h) Q := by
  subst hp
  exact wG_s he (fun cf => rfl)
theorem r_lshl (he : pEnt k pc = some (.lshl, x, ps)) (hp : pc + 1 = pc') : wG d k (pc, L, .int y :: .long w :: st, h) Q = wG d k (pc', L, .long (w <<< (y.toInt64 &&& 63)) :: st, h) Q := by
  subst hp
  exact wG_s he (fun cf => rfl)
theorem r_lshr (he : pEnt k pc = some (.lshr, x, ps)) (hp : pc + 1 = pc') : wG d k (pc, L, .int y :: .long w :: st, h) Q = wG d k (pc', L, .long (w >>> (y.toInt64 &&& 63)) :: st, h) Q := by
  subst hp
  exact wG_s he (fun cf => rfl)
theorem r_lushr (he : pEnt k pc = some (.lushr, x, ps)) (hp : pc + 1 = pc') : wG d k (pc, L, .int y :: .long w :: st, h) Q = wG d k (pc', L, .long ((w.toUInt64 >>> (y.toInt64.toUInt64 &&& Int64.toUInt64 63)).toInt64) :: st, h) Q := by
  subst hp
  exact wG_s he (fun cf => rfl)
theorem r_lcmp (he : pEnt k pc = some (.lcmp, x, ps)) (hp : pc + 1 = pc') : wG d k (pc, L, .long u :: .long w :: st, h) Q = wG d k (pc', L, .int (lg_cmp w u) :: st, h) Q := by
  subst hp
  exact wG_s he (fun cf => rfl)
theorem r_dupI (he : pEnt k pc = some (.dup, x, ps)) (hp : pc + 1 = pc') : wG d k (pc, L, .int v :: st, h) Q = wG d k (pc', L, .int v :: .int v :: st, h) Q := by
  subst hp
  exact wG_s he (fun cf => rfl)
theorem r_dupR {q : Nat} (he : pEnt k pc = some (.dup, x, ps)) (hp : pc + 1 = pc') : wG d k (pc, L, .ref q :: st, h) Q = wG d k (pc', L, .ref q :: .ref q :: st, h) Q := by
  subst hp
  exact wG_s he (fun cf => rfl)
theorem r_dup2 {q : Nat} (he : pEnt k pc = some (.dup2, x, ps)) (hp : pc + 1 = pc') : wG d k (pc, L, .int y :: .ref q :: st, h) Q = wG d k (pc', L, .int y :: .ref q :: .int y :: .ref q :: st, h) Q := by
  subst hp
  exact wG_s he (fun cf => rfl)
theorem r_pop (he : pEnt k pc = some (.pop, x, ps)) (hp : pc + 1 = pc') : wG d k (pc, L, .int y :: st, h) Q = wG d k (pc', L, st, h) Q := by
  subst hp
  exact wG_s he (fun cf => rfl)
theorem r_goto {i : Int} (he : pEnt k pc = some (.goto i, x, ps)) (hp : x.toNat = pc') : wG d k (pc, L, st, h) Q = wG d k (pc', L, st, h) Q := by
  subst hp
  exact wG_s he (fun cf => rfl)
theorem r_icmp_eq {i : Int} {t f : Nat} (he : pEnt k pc = some (.if_icmp .eq i, x, ps)) (ht : x.toNat = t) (hf : pc + 3 = f) : wG d k (pc, L, .int y :: .int v :: st, h) Q = (if v = y then wG d k (t, L, st, h) Q else wG d k (f, L, st, h) Q) := by
  subst ht
  subst hf
  rw [wG_s he (fun cf => rfl)]
  show wG d k (if v = y then x.toNat else pc + 3, L, st, h) Q = _
  by_cases hc : v = y
  · rw [if_pos hc, if_pos hc]
  · rw [if_neg hc, if_neg hc]
theorem r_if_eq {i : Int} {t f : Nat} (he : pEnt k pc = some (.ifCond .eq i, x, ps)) (ht : x.toNat = t) (hf : pc + 3 = f) : wG d k (pc, L, .int v :: st, h) Q = (if v = 0 then wG d k (t, L, st, h) Q else wG d k (f, L, st, h) Q) := by
  subst ht
  subst hf
  rw [wG_s he (fun cf => rfl)]
  show wG d k (if v = 0 then x.toNat else pc + 3, L, st, h) Q = _
  by_cases hc : v = 0
  · rw [if_pos hc, if_pos hc]
  · rw [if_neg hc, if_neg hc]
theorem r_icmp_ne {i : Int} {t f : Nat} (he : pEnt k pc = some (.if_icmp .ne i, x, ps)) (ht : x.toNat = t) (hf : pc + 3 = f) : wG d k (pc, L, .int y :: .int v :: st, h) Q = (if v = y then wG d k (f, L, st, h) Q else wG d k (t, L, st, h) Q) := by
  subst ht
  subst hf
  rw [wG_s he (fun cf => rfl)]
  show wG d k (if v = y then pc + 3 else x.toNat, L, st, h) Q = _
  by_cases hc : v = y
  · rw [if_pos hc, if_pos hc]
  · rw [if_neg hc, if_neg hc]
theorem r_if_ne {i : Int} {t f : Nat} (he : pEnt k pc = some (.ifCond .ne i, x, ps)) (ht : x.toNat = t) (hf : pc + 3 = f) : wG d k (pc, L, .int v :: st, h) Q = (if v = 0 then wG d k (f, L, st, h) Q else wG d k (t, L, st, h) Q) := by
  subst ht
  subst hf
  rw [wG_s he (fun cf => rfl)]
  show wG d k (if v = 0 then pc + 3 else x.toNat, L, st, h) Q = _
  by_cases hc : v = 0
  · rw [if_pos hc, if_pos hc]
  · rw [if_neg hc, if_neg hc]
theorem r_icmp_lt {i : Int} {t f : Nat} (he : pEnt k pc = some (.if_icmp .lt i, x, ps)) (ht : x.toNat = t) (hf : pc + 3 = f) : wG d k (pc, L, .int y :: .int v :: st, h) Q = (if v < y then wG d k (t, L, st, h) Q else wG d k (f, L, st, h) Q) := by
  subst ht
  subst hf
  rw [wG_s he (fun cf => rfl)]
  show wG d k (if v < y then x.toNat else pc + 3, L, st, h) Q = _
  by_cases hc : v < y
  · rw [if_pos hc, if_pos hc]
  · rw [if_neg hc, if_neg hc]
theorem r_if_lt {i : Int} {t f : Nat} (he : pEnt k pc = some (.ifCond .lt i, x, ps)) (ht : x.toNat = t) (hf : pc + 3 = f) : wG d k (pc, L, .int v :: st, h) Q = (if v < 0 then wG d k (t, L, st, h) Q else wG d k (f, L, st, h) Q) := by
  subst ht
  subst hf
  rw [wG_s he (fun cf => rfl)]
  show wG d k (if v < 0 then x.toNat else pc + 3, L, st, h) Q = _
  by_cases hc : v < 0
  · rw [if_pos hc, if_pos hc]
  · rw [if_neg hc, if_neg hc]
theorem r_icmp_ge {i : Int} {t f : Nat} (he : pEnt k pc = some (.if_icmp .ge i, x, ps)) (ht : x.toNat = t) (hf : pc + 3 = f) : wG d k (pc, L, .int y :: .int v :: st, h) Q = (if v < y then wG d k (f, L, st, h) Q else wG d k (t, L, st, h) Q) := by
  subst ht
  subst hf
  rw [wG_s he (fun cf => rfl)]
  show wG d k (if v < y then pc + 3 else x.toNat, L, st, h) Q = _
  by_cases hc : v < y
  · rw [if_pos hc, if_pos hc]
  · rw [if_neg hc, if_neg hc]
theorem r_if_ge {i : Int} {t f : Nat} (he : pEnt k pc = some (.ifCond .ge i, x, ps)) (ht : x.toNat = t) (hf : pc + 3 = f) : wG d k (pc, L, .int v :: st, h) Q = (if v < 0 then wG d k (f, L, st, h) Q else wG d k (t, L, st, h) Q) := by
  subst ht
  subst hf
  rw [wG_s he (fun cf => rfl)]
  show wG d k (if v < 0 then pc + 3 else x.toNat, L, st, h) Q = _
  by_cases hc : v < 0
  · rw [if_pos hc, if_pos hc]
  · rw [if_neg hc, if_neg hc]
theorem r_icmp_gt {i : Int} {t f : Nat} (he : pEnt k pc = some (.if_icmp .gt i, x, ps)) (ht : x.toNat = t) (hf : pc + 3 = f) : wG d k (pc, L, .int y :: .int v :: st, h) Q = (if y < v then wG d k (t, L, st, h) Q else wG d k (f, L, st, h) Q) := by
  subst ht
  subst hf
  rw [wG_s he (fun cf => rfl)]
  show wG d k (if y < v then x.toNat else pc + 3, L, st, h) Q = _
  by_cases hc : y < v
  · rw [if_pos hc, if_pos hc]
  · rw [if_neg hc, if_neg hc]
theorem r_if_gt {i : Int} {t f : Nat} (he : pEnt k pc = some (.ifCond .gt i, x, ps)) (ht : x.toNat = t) (hf : pc + 3 = f) : wG d k (pc, L, .int v :: st, h) Q = (if 0 < v then wG d k (t, L, st, h) Q else wG d k (f, L, st, h) Q) := by
  subst ht
  subst hf
  rw [wG_s he (fun cf => rfl)]
  show wG d k (if 0 < v then x.toNat else pc + 3, L, st, h) Q = _
  by_cases hc : 0 < v
  · rw [if_pos hc, if_pos hc]
  · rw [if_neg hc, if_neg hc]
theorem r_icmp_le {i : Int} {t f : Nat} (he : pEnt k pc = some (.if_icmp .le i, x, ps)) (ht : x.toNat = t) (hf : pc + 3 = f) : wG d k (pc, L, .int y :: .int v :: st, h) Q = (if y < v then wG d k (f, L, st, h) Q else wG d k (t, L, st, h) Q) := by
  subst ht
  subst hf
  rw [wG_s he (fun cf => rfl)]
  show wG d k (if y < v then pc + 3 else x.toNat, L, st, h) Q = _
  by_cases hc : y < v
  · rw [if_pos hc, if_pos hc]
  · rw [if_neg hc, if_neg hc]
theorem r_if_le {i : Int} {t f : Nat} (he : pEnt k pc = some (.ifCond .le i, x, ps)) (ht : x.toNat = t) (hf : pc + 3 = f) : wG d k (pc, L, .int v :: st, h) Q = (if 0 < v then wG d k (f, L, st, h) Q else wG d k (t, L, st, h) Q) := by
  subst ht
  subst hf
  rw [wG_s he (fun cf => rfl)]
  show wG d k (if 0 < v then pc + 3 else x.toNat, L, st, h) Q = _
  by_cases hc : 0 < v
  · rw [if_pos hc, if_pos hc]
  · rw [if_neg hc, if_neg hc]
theorem r_sw {i : Int × Int × Int} {offs : Array Int} {t : Nat} (he : pEnt k pc = some (.tableswitch i.1 i.2.1 i.2.2 offs, x, ps)) (ht : x.toNat = t) : wG d k (pc, L, .int v :: st, h) Q = wG d k (swt v ps t, L, st, h) Q := by
  subst ht
  exact wG_s he (fun cf => rfl)
theorem r_lk {i : Int} {offs : Array (Int × Int)} {t : Nat} (he : pEnt k pc = some (.lookupswitch i offs, x, ps)) (ht : x.toNat = t) : wG d k (pc, L, .int v :: st, h) Q = wG d k (swt v ps t, L, st, h) Q := by
  subst ht
  exact wG_s he (fun cf => rfl)
theorem r_swc {a : Int} {t dd : Nat} {l : List (Int × Nat)} (hv : Int32.ofInt a = y) : wG d k (swt v ((a, t) :: l) dd, L, st, h) Q = (if v = y then wG d k (t, L, st, h) Q else wG d k (swt v l dd, L, st, h) Q) := by
  subst hv
  show wG d k (if v = Int32.ofInt a then t else swt v l dd, L, st, h) Q = _
  by_cases hc : v = Int32.ofInt a
  · rw [if_pos hc, if_pos hc]
  · rw [if_neg hc, if_neg hc]
theorem r_swn {dd : Nat} : wG d k (swt v [] dd, L, st, h) Q = wG d k (dd, L, st, h) Q := rfl
end RUL

