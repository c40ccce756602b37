/-! a run that can't touch cell 9 is the same, whatever cell 9 holds -/
def phi (N : Nat) (xs : Nat → Int32) (h : pH) : pH := (h.1, va_up h.2.1 9 (.inr (0, N)), h.2.2.1, va_up h.2.2.2 9 xs)
def nin (h : pH) : Prop := h.2.1 9 = .inr (9, 0) ∧ pU h
def phR (N : Nat) (xs : Nat → Int32) : pR → pR
  | .inl (pc, L, st, h) => .inl (pc, L, st, phi N xs h)
  | .inr (v, h) => .inr (v, phi N xs h)
section PHI
variable {N : Nat} {xs : Nat → Int32} {cf : Nat → List Value → pH → Option (Option Value × pH)} {k pc n : Nat} {x : Int} {ps : List (Int × Nat)} {L st : List Value} {h : pH} {r : pR}
theorem ph_ne {a : Nat} {s : pSh} (hp : nin h) (hs : h.2.1 a = s) (hn : s ≠ .inr (9, 0)) : a ≠ 9 := fun e => by
  rw [e, hp.1] at hs
  exact hn hs.symm
theorem ph_s {a : Nat} (ha : a ≠ 9) : (phi N xs h).2.1 a = h.2.1 a := up_n ha
theorem ph_i {a : Nat} (ha : a ≠ 9) : (phi N xs h).2.2.2 a = h.2.2.2 a := up_n ha
theorem ph_fv {a ci q : Nat} (ha : a ≠ 9) : fv (phi N xs h) a ci q = fv h a ci q := by
  simp only [fv, ph_i ha]
  rfl
theorem ph_pi {a : Nat} {g : Nat → Int32} (ha : a ≠ 9) : phi N xs (h.1, h.2.1, h.2.2.1, va_up h.2.2.2 a g) = ((phi N xs h).1, (phi N xs h).2.1, (phi N xs h).2.2.1, va_up (phi N xs h).2.2.2 a g) := by
  refine Prod.ext rfl (Prod.ext rfl (Prod.ext rfl (funext fun b => ?_)))
  show va_up (va_up h.2.2.2 a g) 9 xs b = va_up (va_up h.2.2.2 9 xs) a g b
  by_cases hb : b = 9
  · subst hb
    rw [up_s, up_n (Ne.symm ha), up_s]
  · by_cases hb2 : b = a
    · subst hb2
      rw [up_n hb, up_s, up_s]
    · rw [up_n hb, up_n hb2, up_n hb2, up_n hb]
theorem ph_al {s : pSh} {sl : Nat} (hp : nin h) : phi N xs (pAl h s sl) = pAl (phi N xs h) s sl := by
  have hu := hp.2.1
  have hz : nX = 10 := rfl
  have h9 : h.1.1 ≠ 9 := by omega
  show (_, _, _, _) = (_, _, _, _)
  congr 1
  congr 1
  · funext b
    show va_up (va_up h.2.1 h.1.1 s) 9 (.inr (0, N)) b = va_up (va_up h.2.1 9 (.inr (0, N))) h.1.1 s b
    by_cases hb : b = 9
    · subst hb; rw [up_s, up_n (Ne.symm h9), up_s]
    · by_cases hb2 : b = h.1.1
      · rw [hb2, up_n h9, up_s, up_s]
      · rw [up_n hb, up_n hb2, up_n hb2, up_n hb]
  · congr 1
    funext b
    show va_up (va_up h.2.2.2 h.1.1 (fun _ => 0)) 9 xs b = va_up (va_up h.2.2.2 9 xs) h.1.1 (fun _ => 0) b
    by_cases hb : b = 9
    · subst hb; rw [up_s, up_n (Ne.symm h9), up_s]
    · by_cases hb2 : b = h.1.1
      · rw [hb2, up_n h9, up_s, up_s]
      · rw [up_n hb, up_n hb2, up_n hb2, up_n hb]
theorem ph_do {mm : Nat} (hcf : ∀ mm as hh v hh', cf mm as hh = some (v, hh') → nin hh → cf mm as (phi N xs hh) = some (v, phi N xs hh')) (hp : nin h) (hs : doC cf mm pc L st h = some r) : doC cf mm pc L st (phi N xs h) = some (phR N xs r) := by
  unfold doC at hs ⊢
  split at hs
  · cases hs
  · rename_i hl
    rw [if_neg hl]
    split at hs
    · rename_i v h' hc
      cases hs
      rw [hcf _ _ _ _ _ hc hp]
      rfl
    · cases hs
theorem ph_iso {mm : Nat} {as : List Value} (hp : nin h) (hs : isO mm as h = true) : isO mm as (phi N xs h) = true := by
  unfold isO at hs ⊢
  split at hs
  · simp only [decide_eq_true_eq] at hs ⊢
    rw [ph_s (ph_ne hp hs (fun q => by cases q))]
    exact hs
  · cases hs
set_option maxHeartbeats 8000000 in
theorem phi_stp (hcf : ∀ mm as hh v hh', cf mm as hh = some (v, hh') → nin hh → cf mm as (phi N xs hh) = some (v, phi N xs hh')) {i : Instr} (hp : nin h) (hs : stp cf k pc (i, x, ps) L st h = some r) : stp cf k pc (i, x, ps) L st (phi N xs h) = some (phR N xs r) := by
  cases i
  case iconst c => simp only [stp] at hs ⊢; cases hs; rfl
  case bipush c => simp only [stp] at hs ⊢; cases hs; rfl
  case sipush c => simp only [stp] at hs ⊢; cases hs; rfl
  case lconst c => simp only [stp] at hs ⊢; cases hs; rfl
  case ldc c => simp only [stp] at hs ⊢; (repeat' split at hs) <;> first | (cases hs; done) | (cases hs; rfl) | (cases hs; simp only [*, and_self, if_true, if_false]; rfl) | (cases hs; simp_all [phR])
  case ldc_w c => simp only [stp] at hs ⊢; cases hs; rfl
  case ldc2_w c => simp only [stp] at hs ⊢; cases hs; rfl
  case iload c => simp only [stp] at hs ⊢; (repeat' split at hs) <;> first | (cases hs; done) | (cases hs; rfl) | (cases hs; simp only [*, and_self, if_true, if_false]; rfl) | (cases hs; simp_all [phR])
  case iload_n c => simp only [stp] at hs ⊢; (repeat' split at hs) <;> first | (cases hs; done) | (cases hs; rfl) | (cases hs; simp only [*, and_self, if_true, if_false]; rfl) | (cases hs; simp_all [phR])
  case aload c => simp only [stp] at hs ⊢; (repeat' split at hs) <;> first | (cases hs; done) | (cases hs; rfl) | (cases hs; simp only [*, and_self, if_true, if_false]; rfl) | (cases hs; simp_all [phR])
  case aload_n c => simp only [stp] at hs ⊢; (repeat' split at hs) <;> first | (cases hs; done) | (cases hs; rfl) | (cases hs; simp only [*, and_self, if_true, if_false]; rfl) | (cases hs; simp_all [phR])
  case lload c => simp only [stp] at hs ⊢; (repeat' split at hs) <;> first | (cases hs; done) | (cases hs; rfl) | (cases hs; simp only [*, and_self, if_true, if_false]; rfl) | (cases hs; simp_all [phR])
  case lload_n c => simp only [stp] at hs ⊢; (repeat' split at hs) <;> first | (cases hs; done) | (cases hs; rfl) | (cases hs; simp only [*, and_self, if_true, if_false]; rfl) | (cases hs; simp_all [phR])
  case istore c => simp only [stp] at hs ⊢; (repeat' split at hs) <;> first | (cases hs; done) | (cases hs; rfl) | (cases hs; simp only [*, and_self, if_true, if_false]; rfl) | (cases hs; simp_all [phR])
  case istore_n c => simp only [stp] at hs ⊢; (repeat' split at hs) <;> first | (cases hs; done) | (cases hs; rfl) | (cases hs; simp only [*, and_self, if_true, if_false]; rfl) | (cases hs; simp_all [phR])
  case astore c => simp only [stp] at hs ⊢; (repeat' split at hs) <;> first | (cases hs; done) | (cases hs; rfl) | (cases hs; simp only [*, and_self, if_true, if_false]; rfl) | (cases hs; simp_all [phR])
  case astore_n c => simp only [stp] at hs ⊢; (repeat' split at hs) <;> first | (cases hs; done) | (cases hs; rfl) | (cases hs; simp only [*, and_self, if_true, if_false]; rfl) | (cases hs; simp_all [phR])
  case iinc c1 c2 => simp only [stp] at hs ⊢; (repeat' split at hs) <;> first | (cases hs; done) | (cases hs; rfl) | (cases hs; simp only [*, and_self, if_true, if_false]; rfl) | (cases hs; simp_all [phR])
  case iadd  => simp only [stp] at hs ⊢; (repeat' split at hs) <;> first | (cases hs; done) | (cases hs; rfl) | (cases hs; simp only [*, and_self, if_true, if_false]; rfl) | (cases hs; simp_all [phR])
  case isub  => simp only [stp] at hs ⊢; (repeat' split at hs) <;> first | (cases hs; done) | (cases hs; rfl) | (cases hs; simp only [*, and_self, if_true, if_false]; rfl) | (cases hs; simp_all [phR])
  case imul  => simp only [stp] at hs ⊢; (repeat' split at hs) <;> first | (cases hs; done) | (cases hs; rfl) | (cases hs; simp only [*, and_self, if_true, if_false]; rfl) | (cases hs; simp_all [phR])
  case idiv  => simp only [stp] at hs ⊢; (repeat' split at hs) <;> first | (cases hs; done) | (cases hs; rfl) | (cases hs; simp only [*, and_self, if_true, if_false]; rfl) | (cases hs; simp_all [phR])
  case irem  => simp only [stp] at hs ⊢; (repeat' split at hs) <;> first | (cases hs; done) | (cases hs; rfl) | (cases hs; simp only [*, and_self, if_true, if_false]; rfl) | (cases hs; simp_all [phR])
  case ineg  => simp only [stp] at hs ⊢; (repeat' split at hs) <;> first | (cases hs; done) | (cases hs; rfl) | (cases hs; simp only [*, and_self, if_true, if_false]; rfl) | (cases hs; simp_all [phR])
  case iand  => simp only [stp] at hs ⊢; (repeat' split at hs) <;> first | (cases hs; done) | (cases hs; rfl) | (cases hs; simp only [*, and_self, if_true, if_false]; rfl) | (cases hs; simp_all [phR])
  case ior  => simp only [stp] at hs ⊢; (repeat' split at hs) <;> first | (cases hs; done) | (cases hs; rfl) | (cases hs; simp only [*, and_self, if_true, if_false]; rfl) | (cases hs; simp_all [phR])
  case ixor  => simp only [stp] at hs ⊢; (repeat' split at hs) <;> first | (cases hs; done) | (cases hs; rfl) | (cases hs; simp only [*, and_self, if_true, if_false]; rfl) | (cases hs; simp_all [phR])
  case ishl  => simp only [stp] at hs ⊢; (repeat' split at hs) <;> first | (cases hs; done) | (cases hs; rfl) | (cases hs; simp only [*, and_self, if_true, if_false]; rfl) | (cases hs; simp_all [phR])
  case ishr  => simp only [stp] at hs ⊢; (repeat' split at hs) <;> first | (cases hs; done) | (cases hs; rfl) | (cases hs; simp only [*, and_self, if_true, if_false]; rfl) | (cases hs; simp_all [phR])
  case iushr  => simp only [stp] at hs ⊢; (repeat' split at hs) <;> first | (cases hs; done) | (cases hs; rfl) | (cases hs; simp only [*, and_self, if_true, if_false]; rfl) | (cases hs; simp_all [phR])
  case i2l  => simp only [stp] at hs ⊢; (repeat' split at hs) <;> first | (cases hs; done) | (cases hs; rfl) | (cases hs; simp only [*, and_self, if_true, if_false]; rfl) | (cases hs; simp_all [phR])
  case l2i  => simp only [stp] at hs ⊢; (repeat' split at hs) <;> first | (cases hs; done) | (cases hs; rfl) | (cases hs; simp only [*, and_self, if_true, if_false]; rfl) | (cases hs; simp_all [phR])
  case i2b  => simp only [stp] at hs ⊢; (repeat' split at hs) <;> first | (cases hs; done) | (cases hs; rfl) | (cases hs; simp only [*, and_self, if_true, if_false]; rfl) | (cases hs; simp_all [phR])
  case i2s  => simp only [stp] at hs ⊢; (repeat' split at hs) <;> first | (cases hs; done) | (cases hs; rfl) | (cases hs; simp only [*, and_self, if_true, if_false]; rfl) | (cases hs; simp_all [phR])
  case i2c  => simp only [stp] at hs ⊢; (repeat' split at hs) <;> first | (cases hs; done) | (cases hs; rfl) | (cases hs; simp only [*, and_self, if_true, if_false]; rfl) | (cases hs; simp_all [phR])
  case land  => simp only [stp] at hs ⊢; (repeat' split at hs) <;> first | (cases hs; done) | (cases hs; rfl) | (cases hs; simp only [*, and_self, if_true, if_false]; rfl) | (cases hs; simp_all [phR])
  case lor  => simp only [stp] at hs ⊢; (repeat' split at hs) <;> first | (cases hs; done) | (cases hs; rfl) | (cases hs; simp only [*, and_self, if_true, if_false]; rfl) | (cases hs; simp_all [phR])
  case lshl  => simp only [stp] at hs ⊢; (repeat' split at hs) <;> first | (cases hs; done) | (cases hs; rfl) | (cases hs; simp only [*, and_self, if_true, if_false]; rfl) | (cases hs; simp_all [phR])
  case lshr  => simp only [stp] at hs ⊢; (repeat' split at hs) <;> first | (cases hs; done) | (cases hs; rfl) | (cases hs; simp only [*, and_self, if_true, if_false]; rfl) | (cases hs; simp_all [phR])
  case lushr  => simp only [stp] at hs ⊢; (repeat' split at hs) <;> first | (cases hs; done) | (cases hs; rfl) | (cases hs; simp only [*, and_self, if_true, if_false]; rfl) | (cases hs; simp_all [phR])
  case lcmp  => simp only [stp] at hs ⊢; (repeat' split at hs) <;> first | (cases hs; done) | (cases hs; rfl) | (cases hs; simp only [*, and_self, if_true, if_false]; rfl) | (cases hs; simp_all [phR])
  case dup  => simp only [stp] at hs ⊢; (repeat' split at hs) <;> first | (cases hs; done) | (cases hs; rfl) | (cases hs; simp only [*, and_self, if_true, if_false]; rfl) | (cases hs; simp_all [phR])
  case dup2  => simp only [stp] at hs ⊢; (repeat' split at hs) <;> first | (cases hs; done) | (cases hs; rfl) | (cases hs; simp only [*, and_self, if_true, if_false]; rfl) | (cases hs; simp_all [phR])
  case pop  => simp only [stp] at hs ⊢; (repeat' split at hs) <;> first | (cases hs; done) | (cases hs; rfl) | (cases hs; simp only [*, and_self, if_true, if_false]; rfl) | (cases hs; simp_all [phR])
  case goto c => simp only [stp] at hs ⊢; cases hs; rfl
  case if_icmp c1 c2 => simp only [stp] at hs ⊢; (repeat' split at hs) <;> first | (cases hs; done) | (cases hs; rfl) | (cases hs; simp only [*, and_self, if_true, if_false]; rfl) | (cases hs; simp_all [phR])
  case ifCond c1 c2 => simp only [stp] at hs ⊢; (repeat' split at hs) <;> first | (cases hs; done) | (cases hs; rfl) | (cases hs; simp only [*, and_self, if_true, if_false]; rfl) | (cases hs; simp_all [phR])
  case tableswitch c1 c2 c3 c4 => simp only [stp] at hs ⊢; (repeat' split at hs) <;> first | (cases hs; done) | (cases hs; rfl) | (cases hs; simp only [*, and_self, if_true, if_false]; rfl) | (cases hs; simp_all [phR])
  case lookupswitch c1 c2 => simp only [stp] at hs ⊢; (repeat' split at hs) <;> first | (cases hs; done) | (cases hs; rfl) | (cases hs; simp only [*, and_self, if_true, if_false]; rfl) | (cases hs; simp_all [phR])
  case getstatic c => simp only [stp] at hs ⊢; cases hs; rfl
  case ireturn  => simp only [stp] at hs ⊢; (repeat' split at hs) <;> first | (cases hs; done) | (cases hs; rfl) | (cases hs; simp only [*, and_self, if_true, if_false]; rfl) | (cases hs; simp_all [phR])
  case areturn  => simp only [stp] at hs ⊢; (repeat' split at hs) <;> first | (cases hs; done) | (cases hs; rfl) | (cases hs; simp only [*, and_self, if_true, if_false]; rfl) | (cases hs; simp_all [phR])
  case return_  => simp only [stp] at hs ⊢; (repeat' split at hs) <;> first | (cases hs; done) | (cases hs; rfl) | (cases hs; simp only [*, and_self, if_true, if_false]; rfl) | (cases hs; simp_all [phR])
  case getfield j =>
    simp only [stp] at hs ⊢
    split at hs
    · rename_i b r
      split at hs
      · rename_i hc
        have ha := ph_ne hp hc.1 (fun q => by cases q)
        cases hs
        simp only [ph_s ha, ph_fv ha]
        rw [if_pos hc]
        rfl
      · cases hs
    · cases hs
  case putfield j =>
    simp only [stp] at hs ⊢
    split at hs
    · rename_i v b r
      split at hs
      · rename_i hc
        have ha := ph_ne hp hc.1 (fun q => by cases q)
        cases hs
        simp only [ph_s ha]
        rw [if_pos hc]
        simp only [phR, uI, ph_pi ha, ph_i ha]
      · cases hs
    · rename_i v b r
      split at hs
      · rename_i hc
        have ha := ph_ne hp hc.1 (fun q => by cases q)
        cases hs
        simp only [ph_s ha]
        rw [if_pos hc]
        rfl
      · cases hs
    · cases hs
  case arraylength =>
    simp only [stp] at hs ⊢
    split at hs
    · split at hs
      · rename_i t nn hsh
        split at hs
        · rename_i ht
          have ha := ph_ne hp hsh (fun q => by cases q; omega)
          cases hs
          simp only [ph_s ha, hsh]
          rw [if_pos ht]
          rfl
        · cases hs
      · cases hs
    · cases hs

  case iaload =>
    simp only [stp] at hs ⊢
    split at hs
    · split at hs
      · rename_i nn hsh
        split at hs
        · rename_i hc
          have ha := ph_ne hp hsh (fun q => by cases q)
          cases hs
          simp only [ph_s ha, hsh, ph_i ha]
          rw [if_pos hc]
          rfl
        · cases hs
      · cases hs
    · cases hs
  case baload =>
    simp only [stp] at hs ⊢
    split at hs
    · split at hs
      · rename_i nn hsh
        split at hs
        · rename_i hc
          have ha := ph_ne hp hsh (fun q => by cases q)
          cases hs
          simp only [ph_s ha, hsh, ph_i ha]
          rw [if_pos hc]
          rfl
        · cases hs
      · cases hs
    · cases hs
  case aaload =>
    simp only [stp] at hs ⊢
    split at hs
    · split at hs
      · rename_i t nn hsh
        split at hs
        · rename_i hc
          have ha := ph_ne hp hsh (fun q => by cases q; have := hc.1; omega)
          cases hs
          simp only [ph_s ha, hsh]
          rw [if_pos hc]
          rfl
        · cases hs
      · cases hs
    · cases hs
  case iastore =>
    simp only [stp] at hs ⊢
    split at hs
    · split at hs
      · rename_i nn hsh
        split at hs
        · rename_i hc
          have ha := ph_ne hp hsh (fun q => by cases q)
          cases hs
          simp only [ph_s ha, hsh]
          rw [if_pos hc]
          simp only [phR, uI, ph_pi ha, ph_i ha]
        · cases hs
      · cases hs
    · cases hs
  case aastore =>
    simp only [stp] at hs ⊢
    split at hs
    · split at hs
      · rename_i t nn hsh
        split at hs
        · rename_i hc
          have ha := ph_ne hp hsh (fun q => by cases q; have := hc.1; omega)
          have hv : (phi N xs h).2.1 _ = h.2.1 _ := ph_s (by
            rcases hc.1 with ⟨-, q⟩ | ⟨-, q⟩
            · exact ph_ne hp q (fun z => by cases z)
            · exact ph_ne hp q (fun z => by cases z))
          cases hs
          simp only [ph_s ha, hsh, hv]
          rw [if_pos hc]
          rfl
        · cases hs
      · cases hs
    · cases hs
  case new j =>
    simp only [stp] at hs ⊢
    cases hs
    simp only [phR, ph_al hp]
    rfl
  case newarray t =>
    simp only [stp] at hs ⊢
    split at hs
    · split at hs
      · rename_i hc
        cases hs
        rw [if_pos hc]
        simp only [phR, ph_al hp]
        rfl
      · cases hs
    · cases hs
  case anewarray j =>
    simp only [stp] at hs ⊢
    split at hs
    · split at hs
      · rename_i hc
        cases hs
        rw [if_pos hc]
        simp only [phR, ph_al hp]
        rfl
      · cases hs
    · cases hs
  case invokevirtual j =>
    simp only [stp] at hs ⊢
    split at hs
    · rename_i hc
      rw [if_pos ⟨hc.1, ph_iso hp hc.2⟩]
      exact ph_do hcf hp hs
    · cases hs
  case invokespecial j =>
    simp only [stp] at hs ⊢
    split at hs
    · rename_i hc
      rw [if_pos hc]
      exact ph_do hcf hp hs
    · rename_i hc
      rw [if_neg hc]
      split at hs
      · rename_i hc1
        rw [if_pos hc1]
        split at hs
        · split at hs
          · rename_i hc2
            cases hs
            rw [if_pos hc2]
            rfl
          · cases hs
        · cases hs
      · cases hs
  case invokestatic j =>
    simp only [stp] at hs ⊢
    split at hs
    · rename_i hc
      rw [if_pos hc]
      exact ph_do hcf hp hs
    · rename_i hc
      rw [if_neg hc]
      split at hs
      · rename_i hc1
        rw [if_pos hc1]
        split at hs
        · split at hs
          · rename_i na nb hsa hsb
            split at hs
            · rename_i hc2
              have ha := ph_ne hp hsa (fun q => by cases q)
              have hb := ph_ne hp hsb (fun q => by cases q)
              cases hs
              simp only [ph_s ha, ph_s hb, hsa, hsb]
              rw [if_pos hc2]
              simp only [phR, ph_pi hb, ph_i ha, ph_i hb]
            · cases hs
          · cases hs
        · cases hs
      · rename_i hc1
        rw [if_neg hc1]
        split at hs
        · rename_i hc3
          rw [if_pos hc3]
          split at hs
          · split at hs
            · rename_i hc2
              cases hs
              rw [if_pos hc2]
              rfl
            · cases hs
          · cases hs
        · rename_i hc3
          rw [if_neg hc3]
          split at hs
          · rename_i hc4
            rw [if_pos hc4]
            split at hs
            · split at hs
              · rename_i hc2
                cases hs
                rw [if_pos hc2]
                rfl
              · cases hs
            · cases hs
          · cases hs
  all_goals (simp only [stp] at hs; cases hs)
theorem nin_of {h' : pH} (hp : nin h) (hl : pLe h h') : nin h' := ⟨(hl.2.1 9 (by decide)).1.trans hp.1, hl.1⟩
theorem phi_run (hk : k < 259) (hcp : ∀ mm as hh v hh', cf mm as hh = some (v, hh') → pU hh → pLe hh hh') (hcf : ∀ mm as hh v hh', cf mm as hh = some (v, hh') → nin hh → cf mm as (phi N xs hh) = some (v, phi N xs hh')) : ∀ (n : Nat) (pc : Nat) (L st : List Value) (h : pH) (v : Option Value) (hf : pH), run cf k n (pc, L, st, h) = some (v, hf) → nin h → run cf k n (pc, L, st, phi N xs h) = some (v, phi N xs hf) := by
  intro n
  induction n with
  | zero => intro pc L st h v hf hr _; cases hr
  | succ n ih =>
    intro pc L st h v hf hr hp
    unfold run at hr ⊢
    simp only at hr ⊢
    split at hr
    · cases hr
    · rename_i e he
      obtain ⟨nn, -, hok⟩ := chk_spec (pEnt_chk hk he)
      split at hr
      · cases hr
      · rename_i c' hs
        obtain ⟨pc', L', st', h'⟩ := c'
        have h1 := phi_stp (N := N) (xs := xs) hcf hp hs
        have h2 := stp_pure hcp hok hs hp.2
        simp only [he, h1, phR]
        exact ih pc' L' st' h' v hf hr (nin_of hp h2)
      · rename_i r hs
        obtain ⟨v', h'⟩ := r
        have h1 := phi_stp (N := N) (xs := xs) hcf hp hs
        cases hr
        simp only [he, h1, phR]
end PHI
theorem phi_evM {N : Nat} {xs : Nat → Int32} : ∀ (d n mm : Nat) (as : List Value) (h : pH) (v : Option Value) (h' : pH), evM d n mm as h = some (v, h') → nin h → evM d n mm as (phi N xs h) = some (v, phi N xs h') := by
  intro d
  induction d with
  | zero => intro n mm as h v h' he; cases he
  | succ d ih =>
    intro n mm as h v h' he hp
    unfold evM at he ⊢
    split at he
    · rename_i hc
      rw [if_pos hc]
      exact phi_run (Nat.lt_succ_of_lt hc.2) (fun mm as hh v hh' q hu => evM_pure d n mm as hh v hh' q hu) (fun mm as hh v hh' q hn => ih n mm as hh v hh' q hn) n _ _ _ _ _ _ he hp
    · cases he
/-- the heap at the entry, but cell 9 -/
def h_b : pH := ((10, 0), fun i => if i = 9 then .inr (9, 0) else exS 0 i, exR, exI (fun _ => 0))
theorem h_bphi {N : Nat} {xs : Nat → Int32} : phi N xs h_b = h_0 N xs := by
  show (_, _, _, _) = (_, _, _, _)
  congr 1
  congr 1
  · funext i
    show va_up (fun i => if i = 9 then Sum.inr (9, 0) else exS 0 i) 9 (.inr (0, N)) i = exS N i
    by_cases hi : i = 9
    · subst hi; rw [up_s]; rfl
    · rw [up_n hi, if_neg hi]
      match i, hi with
      | 0, _ => rfl
      | 1, _ => rfl
      | 2, _ => rfl
      | 3, _ => rfl
      | 4, _ => rfl
      | 5, _ => rfl
      | 6, _ => rfl
      | 7, _ => rfl
      | 8, _ => rfl
      | 9, h => exact absurd rfl h
      | j + 10, _ => rfl
  · congr 1
    funext i
    show va_up (exI (fun _ => 0)) 9 xs i = exI xs i
    by_cases hi : i = 9
    · subst hi; rw [up_s]; rfl
    · rw [up_n hi]
      match i, hi with
      | 0, _ => rfl
      | 1, _ => rfl
      | 2, _ => rfl
      | 3, _ => rfl
      | 4, _ => rfl
      | 5, _ => rfl
      | 6, _ => rfl
      | 7, _ => rfl
      | 8, _ => rfl
      | 9, h => exact absurd rfl h
      | j + 10, _ => rfl
theorem h_bnin : nin h_b := by
  refine ⟨rfl, Nat.le_refl 10, fun i hi => ?_, fun i hi ci hs => ?_, fun i hi t nn hs => ?_⟩
  · have hi : 10 ≤ i := hi
    obtain ⟨j, rfl⟩ : ∃ j, i = j + 10 := ⟨i - 10, by omega⟩
    rfl
  · have hi : 10 ≤ i := hi
    obtain ⟨j, rfl⟩ : ∃ j, i = j + 10 := ⟨i - 10, by omega⟩
    cases hs
  · have hi : 10 ≤ i := hi
    obtain ⟨j, rfl⟩ : ∃ j, i = j + 10 := ⟨i - 10, by omega⟩
    cases hs
    decide
/-- the two objects, made -/
def kPB : Nat := 95
def kPM : Nat := 152
def h_c1 : pH := match evM 8 3000 kPB [.ref 10] (pAl h_b (.inl 9) 9) with
  | some (_, h) => h
  | none => h_b

def h_c2 : pH := match evM 8 3000 kPM [.ref 101] (pAl h_c1 (.inl 10) 25) with
  | some (_, h) => h
  | none => h_b

/-! the made cells: shapes, references, ints, as tables -/
def tSh : List (List pSh) := [[.inl 11, .inl 11, .inl 11, .inr (1, 0), .inr (1, 3), .inr (1, 3), .inr (0, 7), .inr (0, 8), .inr (0, 28), .inr (9, 0), .inl 9, .inl 2, .inr (2, 7), .inl 5, .inl 5, .inl 5],
  [.inl 5, .inl 5, .inl 5, .inl 5, .inl 4, .inr (0, 4), .inl 1, .inl 4, .inr (0, 50), .inl 4, .inr (0, 50), .inl 1, .inl 4, .inr (0, 50), .inl 4, .inr (0, 50)],
  [.inl 4, .inr (0, 7), .inl 4, .inr (0, 50), .inl 4, .inr (0, 20), .inl 2, .inr (2, 7), .inl 5, .inl 5, .inl 5, .inl 5, .inl 5, .inl 5, .inl 5, .inl 4],
  [.inr (0, 4), .inl 1, .inl 4, .inr (0, 50), .inl 4, .inr (0, 50), .inl 1, .inl 4, .inr (0, 50), .inl 4, .inr (0, 50), .inl 4, .inr (0, 7), .inl 4, .inr (0, 50), .inl 4],
  [.inr (0, 20), .inl 0, .inl 4, .inr (0, 49), .inl 4, .inr (0, 128), .inl 4, .inr (0, 128), .inl 4, .inr (0, 896), .inl 4, .inr (0, 4), .inl 4, .inr (0, 7), .inl 8, .inl 4],
  [.inr (0, 128), .inl 3, .inl 4, .inr (0, 50), .inl 7, .inl 4, .inr (0, 40), .inr (3, 4), .inl 6, .inl 4, .inr (0, 40), .inl 6, .inl 4, .inr (0, 40), .inl 6, .inl 4],
  [.inr (0, 40), .inl 6, .inl 4, .inr (0, 40), .inr (0, 5), .inl 10, .inr (0, 264), .inr (0, 264), .inr (0, 6), .inr (0, 3), .inr (0, 7), .inr (0, 56), .inr (0, 4), .inr (0, 7), .inr (0, 7), .inr (0, 40)],
  [.inr (0, 4), .inr (0, 4), .inr (0, 160), .inr (0, 40)]]
def sB (i : Nat) : pSh := (tSh.getD (i / 16) []).getD (i % 16) (.inr (9, 0))
def tRf : List (List (List (Option Nat))) := [[[some 3], [some 4], [some 5], [], [], [], [], [], [], [], [some 11, some 38, some 65, some 78, some 81, some 84, some 87, some 100], [some 12, some 20, some 22, some 27, some 32, some 34, some 36], [some 13, some 14, some 15, some 16, some 17, some 18, some 19], [], [], []],
  [[], [], [], [], [some 21], [], [none, some 23, some 25], [some 24], [], [some 26], [], [none, some 28, some 30], [some 29], [], [some 31], []],
  [[some 33], [], [some 35], [], [some 37], [], [some 39, some 47, some 49, some 54, some 59, some 61, some 63], [some 40, some 41, some 42, some 43, some 44, some 45, some 46], [], [], [], [], [], [], [], [some 48]],
  [[], [none, some 50, some 52], [some 51], [], [some 53], [], [none, some 55, some 57], [some 56], [], [some 58], [], [some 60], [], [some 62], [], [some 64]],
  [[], [some 11, some 66, some 68, some 70, some 72, some 74, some 76], [some 67], [], [some 69], [], [some 71], [], [some 73], [], [some 75], [], [some 77], [], [some 11, some 79], [some 80]],
  [[], [some 34, some 0, none, some 82], [some 83], [], [some 85], [some 86], [], [some 88, some 91, some 94, some 97], [some 89], [some 90], [], [some 92], [some 93], [], [some 95], [some 96]],
  [[], [some 98], [some 99], [], [], [some 102, some 103, none, some 104, none, none, none, none, none, none, some 105, some 106, some 107, some 108, some 109, none, none, some 110, some 111, none, none, some 112, some 113, some 114, some 115], [], [], [], [], [], [], [], [], [], []],
  [[], [], [], []]]
def rB (i k : Nat) : Option Nat := ((tRf.getD (i / 16) []).getD (i % 16) []).getD k none
/-- the ints that are not 0 -/
def tIn : List ((Nat × Nat) × Int32) := [((11, 8), 1), ((11, 11), 1), ((13, 6), 4), ((14, 0), 1), ((14, 6), 4), ((15, 0), 2), ((15, 6), 4), ((16, 0), 3), ((16, 6), 4), ((17, 0), 4), ((17, 6), 4), ((18, 0), 5), ((18, 6), 4), ((19, 0), 6), ((19, 6), 4), ((20, 1), 4), ((27, 0), 1), ((38, 8), 1), ((38, 11), 1), ((40, 6), 4), ((41, 0), 1), ((41, 6), 4), ((42, 0), 2), ((42, 6), 4), ((43, 0), 3), ((43, 6), 4), ((44, 0), 4), ((44, 6), 4), ((45, 0), 5), ((45, 6), 4), ((46, 0), 6), ((46, 6), 4), ((47, 1), 4), ((54, 0), 1), ((66, 1), 49), ((68, 1), 128), ((70, 1), 128), ((72, 1), 896), ((74, 1), 4), ((102, 1), 1), ((102, 2), 1)]
def iB (i k : Nat) : Int32 := ((tIn.find? (fun q => decide (q.1 = (i, k)))).map (fun q => q.2)).getD 0
def szB (i : Nat) : Nat := match sB i with | .inl c => cNf c | .inr q => q.2
def mkOK : Bool := match evM 8 3000 kPB [.ref 10] (pAl h_b (.inl 9) 9) with
  | some (none, h1) => decide (h1.1 = (101, 2440)) && (match evM 8 3000 kPM [.ref 101] (pAl h1 (.inl 10) 25) with
    | some (none, h2) => decide (h2.1 = (116, 3331)) && (List.range 106).all (fun j => decide (h2.2.1 (10 + j) = sB (10 + j)) && (List.range 30).all (fun k => decide (h2.2.2.1 (10 + j) k = rB (10 + j) k)) && (List.range (szB (10 + j))).all (fun k => decide (h2.2.2.2 (10 + j) k = iB (10 + j) k)))
    | _ => false)
  | _ => false
set_option maxRecDepth 1000000 in
theorem mkOK_ok : mkOK = true := by decide +kernel

