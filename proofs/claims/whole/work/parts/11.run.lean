/-! what a step of the abstract machine keeps -/
def pLe (h h' : pH) : Prop := pU h' ∧ eX h h' ∧ h.1.1 ≤ h'.1.1 ∧ h.1.2 ≤ h'.1.2
theorem pLe.rf {h : pH} (hu : pU h) : pLe h h := ⟨hu, eX.rf, Nat.le_refl _, Nat.le_refl _⟩
theorem pLe.tr {a b c : pH} (h1 : pLe a b) (h2 : pLe b c) : pLe a c := ⟨h2.1, h1.2.1.tr h2.2.1, Nat.le_trans h1.2.2.1 h2.2.2.1, Nat.le_trans h1.2.2.2 h2.2.2.2⟩
def rH (r : pR) : pH := match r with
  | .inl a => a.2.2.2
  | .inr q => q.2
theorem pLe.upd {h h' : pH} (hu : pU h) (e1 : h'.1 = h.1) (e2 : h'.2.1 = h.2.1) (he : eX h h') : pLe h h' := by
  obtain ⟨u1, u2, u3, u4⟩ := hu
  exact ⟨⟨by rw [e1]; exact u1, by rw [e1, e2]; exact u2, by rw [e2]; exact u3, by rw [e2]; exact u4⟩, he, by rw [e1]; exact Nat.le_refl _, by rw [e1]; exact Nat.le_refl _⟩
theorem doC_pure {cf : Nat → List Value → pH → Option (Option Value × pH)} (hcf : ∀ mm as hh v hh', cf mm as hh = some (v, hh') → pU hh → pLe hh hh') {mm pc : Nat} {L st : List Value} {h : pH} {r : pR} (hs : doC cf mm pc L st h = some r) (hu : pU h) : pLe h (rH r) := by
  unfold doC at hs
  split at hs
  · cases hs
  · split at hs
    · rename_i v h' hc
      cases hs
      exact hcf _ _ _ _ _ hc hu
    · cases hs
set_option maxHeartbeats 8000000 in
theorem stp_pure {cf : Nat → List Value → pH → Option (Option Value × pH)} (hcf : ∀ mm as hh v hh', cf mm as hh = some (v, hh') → pU hh → pLe hh hh') {k pc n : Nat} {i : Instr} {x : Int} {ps : List (Int × Nat)} {L st : List Value} {h : pH} {r : pR} (hn : okE k pc n i x ps = true) (hs : stp cf k pc (i, x, ps) L st h = some r) (hu : pU h) : pLe h (rH r) := by
  have hp := pLe.rf hu
  have hX : nX = 10 := rfl
  cases i
  case iconst c => simp only [stp] at hs; cases hs; exact hp
  case bipush c => simp only [stp] at hs; cases hs; exact hp
  case sipush c => simp only [stp] at hs; cases hs; exact hp
  case lconst c => simp only [stp] at hs; cases hs; exact hp
  case ldc c => simp only [stp] at hs; (repeat' split at hs) <;> first | (cases hs; exact hp) | cases hs
  case ldc_w c => simp only [stp] at hs; cases hs; exact hp
  case ldc2_w c => simp only [stp] at hs; cases hs; exact hp
  case iload c => simp only [stp] at hs; (repeat' split at hs) <;> first | (cases hs; exact hp) | cases hs
  case iload_n c => simp only [stp] at hs; (repeat' split at hs) <;> first | (cases hs; exact hp) | cases hs
  case aload c => simp only [stp] at hs; (repeat' split at hs) <;> first | (cases hs; exact hp) | cases hs
  case aload_n c => simp only [stp] at hs; (repeat' split at hs) <;> first | (cases hs; exact hp) | cases hs
  case lload c => simp only [stp] at hs; (repeat' split at hs) <;> first | (cases hs; exact hp) | cases hs
  case lload_n c => simp only [stp] at hs; (repeat' split at hs) <;> first | (cases hs; exact hp) | cases hs
  case istore c => simp only [stp] at hs; (repeat' split at hs) <;> first | (cases hs; exact hp) | cases hs
  case istore_n c => simp only [stp] at hs; (repeat' split at hs) <;> first | (cases hs; exact hp) | cases hs
  case astore c => simp only [stp] at hs; (repeat' split at hs) <;> first | (cases hs; exact hp) | cases hs
  case astore_n c => simp only [stp] at hs; (repeat' split at hs) <;> first | (cases hs; exact hp) | cases hs
  case iinc c1 c2 => simp only [stp] at hs; (repeat' split at hs) <;> first | (cases hs; exact hp) | cases hs
  case iadd  => simp only [stp] at hs; (repeat' split at hs) <;> first | (cases hs; exact hp) | cases hs
  case isub  => simp only [stp] at hs; (repeat' split at hs) <;> first | (cases hs; exact hp) | cases hs
  case imul  => simp only [stp] at hs; (repeat' split at hs) <;> first | (cases hs; exact hp) | cases hs
  case idiv  => simp only [stp] at hs; (repeat' split at hs) <;> first | (cases hs; exact hp) | cases hs
  case irem  => simp only [stp] at hs; (repeat' split at hs) <;> first | (cases hs; exact hp) | cases hs
  case ineg  => simp only [stp] at hs; (repeat' split at hs) <;> first | (cases hs; exact hp) | cases hs
  case iand  => simp only [stp] at hs; (repeat' split at hs) <;> first | (cases hs; exact hp) | cases hs
  case ior  => simp only [stp] at hs; (repeat' split at hs) <;> first | (cases hs; exact hp) | cases hs
  case ixor  => simp only [stp] at hs; (repeat' split at hs) <;> first | (cases hs; exact hp) | cases hs
  case ishl  => simp only [stp] at hs; (repeat' split at hs) <;> first | (cases hs; exact hp) | cases hs
  case ishr  => simp only [stp] at hs; (repeat' split at hs) <;> first | (cases hs; exact hp) | cases hs
  case iushr  => simp only [stp] at hs; (repeat' split at hs) <;> first | (cases hs; exact hp) | cases hs
  case i2l  => simp only [stp] at hs; (repeat' split at hs) <;> first | (cases hs; exact hp) | cases hs
  case l2i  => simp only [stp] at hs; (repeat' split at hs) <;> first | (cases hs; exact hp) | cases hs
  case i2b  => simp only [stp] at hs; (repeat' split at hs) <;> first | (cases hs; exact hp) | cases hs
  case i2s  => simp only [stp] at hs; (repeat' split at hs) <;> first | (cases hs; exact hp) | cases hs
  case i2c  => simp only [stp] at hs; (repeat' split at hs) <;> first | (cases hs; exact hp) | cases hs
  case land  => simp only [stp] at hs; (repeat' split at hs) <;> first | (cases hs; exact hp) | cases hs
  case lor  => simp only [stp] at hs; (repeat' split at hs) <;> first | (cases hs; exact hp) | cases hs
  case lshl  => simp only [stp] at hs; (repeat' split at hs) <;> first | (cases hs; exact hp) | cases hs
  case lshr  => simp only [stp] at hs; (repeat' split at hs) <;> first | (cases hs; exact hp) | cases hs
  case lushr  => simp only [stp] at hs; (repeat' split at hs) <;> first | (cases hs; exact hp) | cases hs
  case lcmp  => simp only [stp] at hs; (repeat' split at hs) <;> first | (cases hs; exact hp) | cases hs
  case dup  => simp only [stp] at hs; (repeat' split at hs) <;> first | (cases hs; exact hp) | cases hs
  case dup2  => simp only [stp] at hs; (repeat' split at hs) <;> first | (cases hs; exact hp) | cases hs
  case pop  => simp only [stp] at hs; (repeat' split at hs) <;> first | (cases hs; exact hp) | cases hs
  case goto c => simp only [stp] at hs; cases hs; exact hp
  case if_icmp c1 c2 => simp only [stp] at hs; (repeat' split at hs) <;> first | (cases hs; exact hp) | cases hs
  case ifCond c1 c2 => simp only [stp] at hs; (repeat' split at hs) <;> first | (cases hs; exact hp) | cases hs
  case tableswitch c1 c2 c3 c4 => simp only [stp] at hs; (repeat' split at hs) <;> first | (cases hs; exact hp) | cases hs
  case lookupswitch c1 c2 => simp only [stp] at hs; (repeat' split at hs) <;> first | (cases hs; exact hp) | cases hs
  case getfield c => simp only [stp] at hs; (repeat' split at hs) <;> first | (cases hs; exact hp) | cases hs
  case getstatic c => simp only [stp] at hs; cases hs; exact hp
  case arraylength  => simp only [stp] at hs; (repeat' split at hs) <;> first | (cases hs; exact hp) | cases hs
  case iaload  => simp only [stp] at hs; (repeat' split at hs) <;> first | (cases hs; exact hp) | cases hs
  case baload  => simp only [stp] at hs; (repeat' split at hs) <;> first | (cases hs; exact hp) | cases hs
  case aaload  => simp only [stp] at hs; (repeat' split at hs) <;> first | (cases hs; exact hp) | cases hs
  case ireturn  => simp only [stp] at hs; (repeat' split at hs) <;> first | (cases hs; exact hp) | cases hs
  case areturn  => simp only [stp] at hs; (repeat' split at hs) <;> first | (cases hs; exact hp) | cases hs
  case return_  => simp only [stp] at hs; (repeat' split at hs) <;> first | (cases hs; exact hp) | cases hs
  case putfield j =>
    simp only [stp] at hs
    split at hs
    · split at hs
      · rename_i hc
        obtain ⟨-, -, hb, -⟩ := hc
        cases hs
        exact pLe.upd hu rfl rfl (fun i hi => ⟨rfl, rfl, up_n (by omega)⟩)
      · cases hs
    · split at hs
      · rename_i hc
        obtain ⟨-, -, hb, -⟩ := hc
        cases hs
        exact pLe.upd hu rfl rfl (fun i hi => ⟨rfl, up_n (by omega), rfl⟩)
      · cases hs
    · cases hs
  case iastore =>
    simp only [stp] at hs
    split at hs
    · split at hs
      · split at hs
        · rename_i hc
          obtain ⟨hb, -⟩ := hc
          cases hs
          exact pLe.upd hu rfl rfl (fun i hi => ⟨rfl, rfl, up_n (by omega)⟩)
        · cases hs
      · cases hs
    · cases hs
  case aastore =>
    simp only [stp] at hs
    split at hs
    · split at hs
      · split at hs
        · rename_i hc
          obtain ⟨-, hb, -⟩ := hc
          cases hs
          exact pLe.upd hu rfl rfl (fun i hi => ⟨rfl, up_n (by omega), rfl⟩)
        · cases hs
      · cases hs
    · cases hs
  case new j =>
    simp only [okE, Bool.and_eq_true, decide_eq_true_eq] at hn
    simp only [stp] at hs
    cases hs
    exact ⟨hu.al (fun ci q => by cases q; exact hn.2) (fun t nn q => by cases q), eX.al hu, Nat.le_succ _, Nat.le_add_right _ _⟩
  case newarray t =>
    simp only [stp] at hs
    split at hs
    · split at hs
      · cases hs
        exact ⟨hu.al (fun ci q => by cases q) (fun t nn q => by cases q; decide), eX.al hu, Nat.le_succ _, Nat.le_add_right _ _⟩
      · cases hs
    · cases hs
  case anewarray j =>
    simp only [okE, Bool.and_eq_true, Bool.or_eq_true, decide_eq_true_eq] at hn
    simp only [stp] at hs
    split at hs
    · split at hs
      · cases hs
        refine ⟨hu.al (fun ci q => by cases q) (fun t nn q => ?_), eX.al hu, Nat.le_succ _, Nat.le_add_right _ _⟩
        cases q
        rcases hn.2 with ⟨q, -⟩ | ⟨q, -⟩ <;> rw [q] <;> decide
      · cases hs
    · cases hs
  case invokevirtual j =>
    simp only [stp] at hs
    split at hs
    · exact doC_pure hcf hs hu
    · cases hs
  case invokespecial j =>
    simp only [stp] at hs
    split at hs
    · exact doC_pure hcf hs hu
    · (repeat' split at hs) <;> first | (cases hs; exact hp) | cases hs
  case invokestatic j =>
    simp only [stp] at hs
    split at hs
    · exact doC_pure hcf hs hu
    · split at hs
      · split at hs
        · split at hs
          · split at hs
            · rename_i hc
              obtain ⟨-, hb, -⟩ := hc
              cases hs
              exact pLe.upd hu rfl rfl (fun i hi => ⟨rfl, rfl, up_n (by omega)⟩)
            · cases hs
          · cases hs
        · cases hs
      · (repeat' split at hs) <;> first | (cases hs; exact hp) | cases hs
  all_goals (simp only [stp] at hs; cases hs)
theorem run_pure {cf : Nat → List Value → pH → Option (Option Value × pH)} (hcf : ∀ mm as hh v hh', cf mm as hh = some (v, hh') → pU hh → pLe hh hh') {k : Nat} (hk : k < 259) : ∀ (n : Nat) (c : pF) (v : Option Value) (hf : pH), run cf k n c = some (v, hf) → pU c.2.2.2 → pLe c.2.2.2 hf := by
  intro n
  induction n with
  | zero => intro c v hf h _; cases h
  | succ n ih =>
    intro c v hf h hu
    unfold run at h
    split at h
    · cases h
    · rename_i e he
      obtain ⟨nn, -, hok⟩ := chk_spec (pEnt_chk hk he)
      split at h
      · cases h
      · rename_i c' hs
        have h1 : pLe c.2.2.2 c'.2.2.2 := stp_pure hcf hok hs hu
        exact h1.tr (ih c' v hf h h1.1)
      · rename_i r hs
        have h1 := stp_pure hcf hok hs hu
        cases h
        exact h1
theorem evM_pure : ∀ (d n mm : Nat) (as : List Value) (h : pH) (v : Option Value) (h' : pH), evM d n mm as h = some (v, h') → pU h → pLe h h' := by
  intro d
  induction d with
  | zero => intro n mm as h v h' he; cases he
  | succ d ih =>
    intro n mm as h v h' he hu
    unfold evM at he
    split at he
    · rename_i hc
      exact run_pure (fun mm as hh v hh' q hu => ih n mm as hh v hh' q hu) (Nat.lt_succ_of_lt hc.2) n _ v h' he hu
    · cases he
section RUN
variable {p : Program} {l : Launch} {e : Env} {R : Room} {s : State} {m : MethodId} {args : Array Value} {below : List Frame} {meth : Method} {c : Code} {Q : State → Prop} {X : pX} {k n0 sl0 : Nat}
variable {pc n d : Nat} {L st : List Value} {h h' : pH} {a : pF} {cf : Nat → List Value → pH → Option (Option Value × pH)}
set_option maxHeartbeats 8000000 in
theorem stp_ok (F : fC p s m args meth c X k) {e0 : pE} (hent : pEnt k pc = some e0) (hcf : ∀ mm as hh v hh', cf mm as hh = some (v, hh') → sndM l d mm as hh v hh') (hR : d + 1 ≤ R.frames ∧ 41 * (d + 1) ≤ R.locals)
    (hs : stp cf k pc e0 L st h = some (.inl a)) (hr : a.2.2.2.1.1 - n0 ≤ R.cells ∧ a.2.2.2.1.2 - sl0 ≤ R.slots) (kk : gW p l e R s m args below meth c Q X k n0 sl0 a) : gW p l e R s m args below meth c Q X k n0 sl0 (pc, L, st, h) := by
  obtain ⟨nn, hd, hok⟩ := chk_spec (pEnt_chk F.2.2.2.2.2.2.2 hent)
  obtain ⟨i, x, ps⟩ := e0
  cases i
  case iconst c => exact so_iconst F hd hok hs kk
  case bipush c => exact so_bipush F hd hok hs kk
  case sipush c => exact so_sipush F hd hok hs kk
  case lconst c => exact so_lconst F hd hok hs kk
  case ldc c => exact so_ldc F hd hok hs kk
  case ldc_w c => exact so_ldc_w F hd hok hs kk
  case ldc2_w c => exact so_ldc2_w F hd hok hs kk
  case iload c => exact so_iload F hd hok hs kk
  case iload_n c => exact so_iload_n F hd hok hs kk
  case aload c => exact so_aload F hd hok hs kk
  case aload_n c => exact so_aload_n F hd hok hs kk
  case lload c => exact so_lload F hd hok hs kk
  case lload_n c => exact so_lload_n F hd hok hs kk
  case istore c => exact so_istore F hd hok hs kk
  case istore_n c => exact so_istore_n F hd hok hs kk
  case astore c => exact so_astore F hd hok hs kk
  case astore_n c => exact so_astore_n F hd hok hs kk
  case iinc c1 c2 => exact so_iinc F hd hok hs kk
  case iadd  => exact so_iadd F hd hok hs kk
  case isub  => exact so_isub F hd hok hs kk
  case imul  => exact so_imul F hd hok hs kk
  case idiv  => exact so_idiv F hd hok hs kk
  case irem  => exact so_irem F hd hok hs kk
  case ineg  => exact so_ineg F hd hok hs kk
  case iand  => exact so_iand F hd hok hs kk
  case ior  => exact so_ior F hd hok hs kk
  case ixor  => exact so_ixor F hd hok hs kk
  case ishl  => exact so_ishl F hd hok hs kk
  case ishr  => exact so_ishr F hd hok hs kk
  case iushr  => exact so_iushr F hd hok hs kk
  case i2l  => exact so_i2l F hd hok hs kk
  case l2i  => exact so_l2i F hd hok hs kk
  case i2b  => exact so_i2b F hd hok hs kk
  case i2s  => exact so_i2s F hd hok hs kk
  case i2c  => exact so_i2c F hd hok hs kk
  case land  => exact so_land F hd hok hs kk
  case lor  => exact so_lor F hd hok hs kk
  case lshl  => exact so_lshl F hd hok hs kk
  case lshr  => exact so_lshr F hd hok hs kk
  case lushr  => exact so_lushr F hd hok hs kk
  case lcmp  => exact so_lcmp F hd hok hs kk
  case dup  => exact so_dup F hd hok hs kk
  case dup2  => exact so_dup2 F hd hok hs kk
  case pop  => exact so_pop F hd hok hs kk
  case goto c => exact so_goto F hd hok hs kk
  case if_icmp c1 c2 => exact so_if_icmp F hd hok hs kk
  case ifCond c1 c2 => exact so_ifCond F hd hok hs kk
  case tableswitch c1 c2 c3 c4 => exact so_tableswitch F hd hok hs kk
  case lookupswitch c1 c2 => exact so_lookupswitch F hd hok hs kk
  case getfield c => exact so_getfield F hd hok hs kk
  case getstatic c => exact so_getstatic F hd hok hs kk
  case arraylength  => exact so_arraylength F hd hok hs kk
  case iaload  => exact so_iaload F hd hok hs kk
  case baload  => exact so_baload F hd hok hs kk
  case aaload  => exact so_aaload F hd hok hs kk
  case ireturn => simp only [stp] at hs; (repeat' split at hs) <;> cases hs
  case areturn => simp only [stp] at hs; (repeat' split at hs) <;> cases hs
  case return_ => simp only [stp] at hs; (repeat' split at hs) <;> cases hs
  case putfield c => exact so_putfield F hd hok hs kk
  case iastore  => exact so_iastore F hd hok hs kk
  case aastore  => exact so_aastore F hd hok hs kk
  case new j => exact so_new F hd hok hs hr kk
  case newarray j => exact so_newarray F hd hok hs hr kk
  case anewarray j => exact so_anewarray F hd hok hs hr kk
  case invokevirtual j => exact so_invokevirtual F hd hok hcf hR hs hr kk
  case invokestatic j => exact so_invokestatic F hd hok hcf hR hs hr kk
  case invokespecial j => exact so_invokespecial F hd hok hcf hR hs hr kk
  all_goals (simp only [stp] at hs; cases hs)
theorem run_ok (F : fC p s m args meth c X k) (hcf : ∀ mm as hh v hh', cf mm as hh = some (v, hh') → sndM l d mm as hh v hh') (hcp : ∀ mm as hh v hh', cf mm as hh = some (v, hh') → pU hh → pLe hh hh') (hR : d + 1 ≤ R.frames ∧ 41 * (d + 1) ≤ R.locals) {v : Option Value} {hf : pH} (hr : hf.1.1 - n0 ≤ R.cells ∧ hf.1.2 - sl0 ≤ R.slots)
    (hret : ∀ pc L st h e0, pEnt k pc = some e0 → stp cf k pc e0 L st h = some (.inr (v, hf)) → gW p l e R s m args below meth c Q X k n0 sl0 (pc, L, st, h)) :
    ∀ (n : Nat) (a : pF), run cf k n a = some (v, hf) → pU a.2.2.2 → gW p l e R s m args below meth c Q X k n0 sl0 a := by
  intro n
  induction n with
  | zero => intro a h; cases h
  | succ n ih =>
    intro a h hu
    obtain ⟨pc, L, st, h0⟩ := a
    unfold run at h
    simp only at h
    split at h
    · cases h
    · rename_i e0 he
      obtain ⟨nn, -, hok⟩ := chk_spec (pEnt_chk F.2.2.2.2.2.2.2 he)
      split at h
      · cases h
      · rename_i c' hs
        have h1 : pLe h0 c'.2.2.2 := stp_pure hcp hok hs hu
        have h2 := run_pure hcp F.2.2.2.2.2.2.2 n c' v hf h h1.1
        exact stp_ok F he hcf hR hs ⟨by have := h2.2.2.1; have := hr.1; omega, by have := h2.2.2.2; have := hr.2; omega⟩ (ih c' h h1.1)
      · rename_i r hs
        cases h
        exact hret pc L st h0 e0 he hs
end RUN
/-! a method's entry -/
theorem inA_sl {X : pX} : ∀ {ss : List Nat} {as : List Value} {j : Nat}, okA ss as = true → (lg_sl (as.map (aV X))).length = (inA as).length ∧ (∀ q ∈ lv_args j (as.map (aV X)), q = q) ∧
    (∀ (i : Nat) (v : Value), (inA as)[i]? = some v → (∀ p, v ≠ .retAddr p) → (j + i, aV X v) ∈ lv_args j (as.map (aV X))) ∧ (∀ (i : Nat) (v : Value), (inA as)[i]? = some v → v.category = 2 → j + i + 1 ∈ lgP j ss) := by
  intro ss
  induction ss with
  | nil =>
    intro as j h
    cases as with
    | nil => exact ⟨rfl, fun _ _ => rfl, fun i v h => by simp [inA] at h, fun i v h => by simp [inA] at h⟩
    | cons a l => simp [okA] at h
  | cons t ss ih =>
    intro as j h
    cases as with
    | nil => unfold okA at h; split at h <;> simp_all
    | cons a as =>
      unfold okA at h
      split at h
      · simp_all
      · rename_i s' x l' e1 e2
        cases e1; cases e2
        obtain ⟨g1, -, g2, g3⟩ := ih (as := as) (j := j + 1) h
        refine ⟨?_, fun _ _ => rfl, fun i v hi hn => ?_, fun i v hi hc => ?_⟩
        · simp only [List.map_cons, aV, lg_sl, List.flatMap_cons, Value.category, inA, List.length_append] at g1 ⊢
          simpa using g1
        · cases i with
          | zero => simp only [inA, List.flatMap_cons, List.cons_append, List.getElem?_cons_zero, Option.some.injEq] at hi; subst hi; simp [lv_args, aV]
          | succ i =>
            have := g2 i v (by simpa [inA] using hi) hn
            simp only [List.map_cons, aV, lv_args, Value.category]
            refine List.mem_cons_of_mem _ ?_
            rw [show j + (i + 1) = j + 1 + i by omega]
            exact this
        · cases i with
          | zero => simp only [inA, List.flatMap_cons, List.cons_append, List.getElem?_cons_zero, Option.some.injEq] at hi; subst hi; simp [Value.category] at hc
          | succ i =>
            have := g3 i v (by simpa [inA] using hi) hc
            simp only [lgP]
            rw [if_neg (by decide), show j + (i + 1) + 1 = j + 1 + i + 1 by omega]
            exact this
      · rename_i s' x l' e1 e2
        cases e1; cases e2
        obtain ⟨g1, -, g2, g3⟩ := ih (as := as) (j := j + 2) h
        refine ⟨?_, fun _ _ => rfl, fun i v hi hn => ?_, fun i v hi hc => ?_⟩
        · simp only [List.map_cons, aV, lg_sl, List.flatMap_cons, Value.category, inA, List.length_append] at g1 ⊢
          simpa using g1
        · match i with
          | 0 => simp only [inA, List.flatMap_cons, List.cons_append, List.getElem?_cons_zero, Option.some.injEq] at hi; subst hi; simp [lv_args, aV]
          | 1 =>
            simp only [inA, List.flatMap_cons, List.cons_append, List.getElem?_cons_succ, List.getElem?_cons_zero, Option.some.injEq] at hi
            exact absurd hi.symm (hn 0)
          | i + 2 =>
            have := g2 i v (by simpa [inA] using hi) hn
            simp only [List.map_cons, aV, lv_args, Value.category]
            refine List.mem_cons_of_mem _ ?_
            rw [show j + (i + 2) = j + 2 + i by omega]
            exact this
        · match i with
          | 0 => simp [lgP]
          | 1 =>
            simp only [inA, List.flatMap_cons, List.cons_append, List.getElem?_cons_succ, List.getElem?_cons_zero, Option.some.injEq] at hi
            subst hi
            simp [Value.category] at hc
          | i + 2 =>
            have := g3 i v (by simpa [inA] using hi) hc
            simp only [lgP, if_true]
            rw [show j + (i + 2) + 1 = j + 2 + i + 1 by omega]
            exact List.mem_cons_of_mem _ this
      · rename_i s' x l' e1 e2
        cases e1; cases e2
        obtain ⟨g1, -, g2, g3⟩ := ih (as := as) (j := j + 1) h
        refine ⟨?_, fun _ _ => rfl, fun i v hi hn => ?_, fun i v hi hc => ?_⟩
        · simp only [List.map_cons, aV, lg_sl, List.flatMap_cons, Value.category, inA, List.length_append] at g1 ⊢
          simpa using g1
        · cases i with
          | zero => simp only [inA, List.flatMap_cons, List.cons_append, List.getElem?_cons_zero, Option.some.injEq] at hi; subst hi; simp [lv_args, aV]
          | succ i =>
            have := g2 i v (by simpa [inA] using hi) hn
            simp only [List.map_cons, aV, lv_args, Value.category]
            refine List.mem_cons_of_mem _ ?_
            rw [show j + (i + 1) = j + 1 + i by omega]
            exact this
        · cases i with
          | zero => simp only [inA, List.flatMap_cons, List.cons_append, List.getElem?_cons_zero, Option.some.injEq] at hi; subst hi; simp [Value.category] at hc
          | succ i =>
            have := g3 i v (by simpa [inA] using hi) hc
            simp only [lgP]
            rw [if_neg (by decide), show j + (i + 1) + 1 = j + 1 + i + 1 by omega]
            exact this
      · cases h

