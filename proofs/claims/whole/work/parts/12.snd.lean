/-! the skeleton's words (a starting text), and: a run of the abstract machine is a run of the machine -/
def R_law : String := "PlayedBackLaw"
def lw_P (b : Addr) (xs : List Int32) (args : Array Value) (s : State) : Prop := args = #[.ref b] ∧ s.IntsAt b xs ∧ xs.length ≤ 3072 ∧ (Jvm.Cond.and given_1 narrow_1).before args s = true
def lw_Q (_ : Array Value) (s : State) (o : Outcome) (t : State) : Prop := o = .returned (some (.int 1)) ∧ Framed s o t [] 600000 7302250
def lw_Z (below : List Frame) (a : Array Value) (s : State) : State → Prop := fun t => ∃ o, t.status = .running ∧ Ended t below o ∧ lw_Q a s o t
/-- the law's own end, with 1 on the stack, nothing written that was there before, its room as the claim has it -/
theorem lw_ret {p : Program} {l : Launch} {e : Env} {s : State} {m : MethodId} {below : List Frame} {meth : Method} {c : Code} {b : Nat} (hx : p.tables.exec = Jvm.exec) (hb : c.code = code) (hr : meth.sig.returnType = ret) (hlocks : meth.locks = false) {pc : Nat} {H : Heap} {ls : Array Slot} (hdg : decode code pc = .ok (.ireturn, 1)) : W p l e room_1 s m #[Value.ref b] below meth c H [] 600000 7302250 (lw_Z below #[Value.ref b] s) (F0 m pc ls [.int 1]) := by
  intro T hT X
  obtain ⟨fs, hret, hrun, hended, hW, hframe⟩ := X.leave (v := some (.int 1)) (hlocks := hlocks) (fun h => by rw [hr] at h; cases h)
  have hmeth' : T.vm.method? m = some meth := X.method'
  refine ⟨T.setFrames fs, ?_, .returned (some (.int 1)), hrun, hended, rfl, ⟨_, rfl⟩, hW, hframe⟩
  jvm_step X.here [X.here.top, hx, hb, hdg, hmeth', hr, ret, narrow_b1]
  (try refine ⟨rfl, ?_⟩); (try refine ⟨rfl, ?_⟩)
  first | (intro acts; rw [hret _ acts rfl rfl rfl]) | rw [hret _ _ rfl rfl rfl]
  exact Steps.refl _
/-- what holds at the law's entry: the machine, the code, the tables' words (any of lw_tbl by 'hts w (by decide +kernel)'), the script of L ints xs at the cell b, what the Statement gives of the start (any of its parts by flat_of_before) -/
def lw_At (p : Program) (s : State) (m : MethodId) (meth : Method) (c : Code) (b L : Nat) (xs : Nat → Int32) : Prop :=
  p.tables.exec = Jvm.exec ∧ c.code = code ∧ meth.sig.returnType = ret ∧ c.maxLocals = 4 ∧ s.vm.findClass R_law = some m.cls ∧ (∀ w ∈ lw_tbl, w.before #[Value.ref b] s = true) ∧ va_X b L xs s s.heap ∧ b < s.heap.size ∧ meth.locks = false ∧ (Jvm.Cond.and given_1 narrow_1).before #[Value.ref b] s = true

def sgW : List Nat → Nat
  | [] => 0
  | t :: l => (if t = 1 then 2 else 1) + sgW l
theorem inA_len : ∀ {ss : List Nat} {as : List Value}, okA ss as = true → (inA as).length = sgW ss := by
  intro ss
  induction ss with
  | nil =>
    intro as h
    cases as with
    | nil => rfl
    | cons a l => simp [okA] at h
  | cons t ss ih =>
    intro as h
    cases as with
    | nil => unfold okA at h; split at h <;> simp_all
    | cons a as =>
      unfold okA at h
      split at h
      · simp_all
      · rename_i s' x l' e1 e2
        cases e1; cases e2
        have := ih h
        simp only [inA, List.flatMap_cons, List.length_append, sgW] at this ⊢
        simp [this]
      · rename_i s' x l' e1 e2
        cases e1; cases e2
        have := ih h
        simp only [inA, List.flatMap_cons, List.length_append, sgW] at this ⊢
        simp [this]
      · rename_i s' x l' e1 e2
        cases e1; cases e2
        have := ih h
        simp only [inA, List.flatMap_cons, List.length_append, sgW] at this ⊢
        simp [this]
      · cases h
theorem sg_max : ∀ mm, mm < 259 → sgW (mSig mm) ≤ mMax mm := by decide +kernel
/-- a method's locals at its entry -/
theorem lR_entry {X : pX} {mm : Nat} (hm : mm < 259) {as : List Value} (hok : okA (mSig mm) as = true) : lR X mm (mMax mm) ((lg_sl (as.map (aV X)) ++ List.replicate (mMax mm - (lg_sl (as.map (aV X))).length) Slot.unset).toArray) (inL mm as) := by
  obtain ⟨g1, -, g2, g3⟩ := inA_sl (X := X) (j := 0) hok
  have hlen := inA_len hok
  have hmx := sg_max mm hm
  have hE := lv_entry (as.map (aV X)) (n := mMax mm) (by rw [g1, hlen]; exact hmx)
  refine ⟨hE.1, ?_, hE.2.1, fun i v hi hn => ?_, fun i v hi hc => ?_⟩
  · unfold inL
    rw [List.length_append, List.length_replicate]
    omega
  · unfold inL at hi
    by_cases hl : i < (inA as).length
    · rw [List.getElem?_append_left hl] at hi
      have := hE.2.2 _ (g2 i v hi hn)
      simpa using this
    · rw [List.getElem?_append_right (by omega)] at hi
      exact absurd (List.eq_of_mem_replicate (List.mem_of_getElem? hi)) (hn 0)
  · unfold inL at hi
    by_cases hl : i < (inA as).length
    · rw [List.getElem?_append_left hl] at hi
      have := g3 i v hi hc
      simpa using this
    · rw [List.getElem?_append_right (by omega)] at hi
      have := List.eq_of_mem_replicate (List.mem_of_getElem? hi)
      subst this
      simp [Value.category] at hc
theorem evM_sound (l : Launch) : ∀ (d n mm : Nat) (as : List Value) (h : pH) (v : Option Value) (h' : pH), evM d n mm as h = some (v, h') → sndM l d mm as h v h' := by
  intro d
  induction d with
  | zero => intro n mm as h v h' he; cases he
  | succ d ih =>
    intro n mm as h v h' he X hu
    have hp := evM_pure _ _ _ _ _ _ _ he hu
    unfold evM at he
    split at he
    · rename_i hc
      obtain ⟨hok, hm⟩ := hc
      obtain ⟨w1, w2, w3, w4, w5, w6, w7, w8⟩ := chW_w hm
      refine ⟨hm, hp.1, hp.2.1, hp.2.2.1, hp.2.2.2, hok, ?_⟩
      refine Met.ofW (cc := mCode mm) (maxL := mMax mm) (ret := mRet mm) w4 rfl ?_
      intro p e s m args below meth c s₁ B hml hv
      obtain ⟨rfl, hsz, hP, hK, hX⟩ := hv
      have hts := atoms_spec (ws := wMc mm :: gT) B.pre
      have hown : s.vm.findClass (cNm (mOwn mm)) = some m.cls := findClass_of_methodNamed B.named
      have hnm : meth.name = (mYn mm).name := (name_of_methodNamed B.named B.method).1
      have hlk : meth.locks = false := B.notSynchronized
      have F : fC p s m (as.map (aV X)).toArray meth c X mm := ⟨B.exec, B.bytes, hml, hown, fun w hw => hts w (List.mem_cons_of_mem _ hw), hK, hnm, Nat.lt_succ_of_lt hm⟩
      have hI : aI X s h.1.1 h.1.2 h s.heap [] := ⟨hu, hP, va_S.rf, hX, hu.1, Nat.le_refl _, Nat.le_refl _, hsz⟩
      have hG := run_ok (R := rmD (d + 1) (h'.1.1 - h.1.1) (h'.1.2 - h.1.2)) (l := l) (e := e) (below := below) (n0 := h.1.1) (sl0 := h.1.2) (Q := MQ below (QM X h' v) (as.map (aV X)).toArray s (h'.1.1 - h.1.1) (h'.1.2 - h.1.2) (aA X)) F (fun mm as hh v hh' q => ih n mm as hh v hh' q) (fun mm as hh v hh' q hu => evM_pure d n mm as hh v hh' q hu) ⟨Nat.le_refl _, Nat.le_refl _⟩ (v := v) (hf := h') ⟨Nat.le_refl _, Nat.le_refl _⟩ ?_ n (0, inL mm as, [], h) he hu
      · have h9 := hG s.heap [] _ hI (lR_entry (Nat.lt_succ_of_lt hm) hok)
        simp only [Nat.sub_self, List.map_nil] at h9
        rw [lg_entry_eq]
        exact h9
      · intro pc L st h0 e0 hent hs
        obtain ⟨nn, hd, hokE⟩ := chk_spec (pEnt_chk (Nat.lt_succ_of_lt hm) hent)
        obtain ⟨i, x, ps⟩ := e0
        intro H locs ls hI hL
        cases i
        case ireturn =>
          have h1 := okN1 hokE
          subst h1
          simp only [stp] at hs
          split at hs
          · rename_i y ty hr
            split at hs
            · rename_i hn
              cases hs
              exact W.zret F.1 F.2.1 (B.returns.trans hr) hn (fun t ht hW => ⟨rfl, by rw [ht]; exact hI.2.1, hI.2.2.1.F ht⟩) hI.2.2.1.2.2 hd hlk
            · cases hs
          · cases hs
        case areturn =>
          have h1 := okN1 hokE
          subst h1
          simp only [stp] at hs
          split at hs
          · rename_i y nm hr
            cases hs
            exact W.aret F.1 F.2.1 (B.returns.trans hr) (Or.inl ⟨_, rfl⟩) (Or.inr ⟨_, rfl⟩) (fun t ht hW => ⟨rfl, by rw [ht]; exact hI.2.1, hI.2.2.1.F ht⟩) hI.2.2.1.2.2 hd hlk
          · cases hs
        case return_ =>
          have h1 := okN1 hokE
          subst h1
          simp only [stp] at hs
          split at hs
          · rename_i hr
            cases hs
            exact W.vret F.1 F.2.1 (B.returns.trans hr) (fun t ht hW => ⟨rfl, by rw [ht]; exact hI.2.1, hI.2.2.1.F ht⟩) hI.2.2.1.2.2 hd hlk
          · cases hs
        case invokevirtual j =>
          simp only [stp, doC] at hs
          (repeat' split at hs) <;> cases hs
        case invokestatic j =>
          simp only [stp, doC] at hs
          (repeat' split at hs) <;> cases hs
        case invokespecial j =>
          simp only [stp, doC] at hs
          (repeat' split at hs) <;> cases hs
        all_goals (simp only [stp] at hs; (repeat' split at hs) <;> cases hs)
    · cases he
/-- the law's run, from its entry -/
theorem law_run {p : Program} {e : Env} {s : State} {m : MethodId} {below : List Frame} {meth : Method} {c : Code} (l : Launch) {b L : Nat} {xs : Nat → Int32} (C0 : lw_At p s m meth c b L xs) {X : pX} {h0 hf : pH} {d n : Nat} (hb9 : X.2.2.2.1 9 = b) (hbase : X.2.2.2.2 = s.heap.size) (hn0 : h0.1 = (nX, 0)) (hu : pU h0) (hK : va_K (aG X) vwCl (aT X) s) (hX : aX X h0 s s.heap) (hnm : meth.name = "law") (hd : d ≤ 1000) (hrun : run (evM d n) 258 n (0, inL 258 [.ref 9], [], h0) = some (some (.int 1), hf)) (hr : hf.1.1 ≤ 600000 ∧ hf.1.2 ≤ 7302250) :
    W p l e room_1 s m #[Value.ref b] below meth c s.heap [] 0 0 (lw_Z below #[Value.ref b] s) (entryFrame m ([Value.ref b] : List Value).toArray 4) := by
  obtain ⟨hx, hb, hrt, hml, hown, hts, hXX, hbl, hlk, hgv⟩ := C0
  have F : fC p s m #[Value.ref b] meth c X 258 := ⟨hx, hb, hml, hown, fun w hw => hts w (gT_in w hw), hK, hnm, by decide⟩
  have hP : va_P (aG X) vwCl (aW X h0) s.heap := fun k q hq => by
    have := (aW_get hq).1
    rw [hn0] at this
    omega
  have hI : aI X s nX 0 h0 s.heap [] := ⟨hu, hP, va_S.rf, hX, Nat.le_refl _, by rw [hn0]; exact Nat.le_refl _, Nat.zero_le _, by rw [hbase]; omega⟩
  have e9 : ([Value.ref b] : List Value) = [Value.ref 9].map (aV X) := by
    show [Value.ref b] = [Value.ref (aD X 9)]
    rw [show aD X 9 = b from hb9]
  have hG := run_ok (R := room_1) (l := l) (e := e) (below := below) (n0 := nX) (sl0 := 0) (Q := lw_Z below #[Value.ref b] s) F (fun mm as hh v hh' q => evM_sound l d n mm as hh v hh' q) (fun mm as hh v hh' q hu => evM_pure d n mm as hh v hh' q hu) ⟨by show _ ≤ 2048; omega, by show _ ≤ 84000; omega⟩ (v := some (.int 1)) (hf := hf) ⟨by show _ ≤ 600000; omega, by show _ ≤ 7302250; omega⟩ ?_ n (0, inL 258 [.ref 9], [], h0) hrun hu
  · have h9 := hG s.heap [] _ hI (lR_entry (X := X) (mm := 258) (by decide) (as := [.ref 9]) rfl)
    simp only [List.map_nil, hn0, Nat.sub_self] at h9
    have e10 : entryFrame m ([Value.ref b] : List Value).toArray 4 = F0 m 0 ((lg_sl (List.map (aV X) [Value.ref 9]) ++ List.replicate (mMax 258 - (lg_sl (List.map (aV X) [Value.ref 9])).length) Slot.unset).toArray) [] := by
      rw [e9]
      exact lg_entry_eq m (List.map (aV X) [Value.ref 9]) 4
    rw [e10]
    exact h9
  · intro pc L st h1 e0 hent hs
    obtain ⟨nn, hd, hokE⟩ := chk_spec (pEnt_chk (by decide) hent)
    obtain ⟨i, x, ps⟩ := e0
    intro H locs ls hI hL
    cases i
    case ireturn =>
      have h1 := okN1 hokE
      subst h1
      simp only [stp] at hs
      split at hs
      · rename_i y ty hr9
        split at hs
        · rename_i hn
          cases hs
          refine va_forget (fun q hq => by rw [← hbase]; exact hI.2.2.1.2.2 q hq) ?_
          refine W.widen (k := 600000) (n := 7302250) (Nat.le_trans (Nat.sub_le _ _) hr.1) (Nat.le_trans (Nat.sub_le _ _) hr.2) ?_
          exact lw_ret hx hb hrt hlk hd
        · cases hs
      · cases hs
    case areturn =>
      simp only [stp] at hs
      split at hs <;> cases hs
    case return_ =>
      simp only [stp] at hs
      split at hs <;> cases hs
    case invokevirtual j =>
      simp only [stp, doC] at hs
      (repeat' split at hs) <;> cases hs
    case invokestatic j =>
      simp only [stp, doC] at hs
      (repeat' split at hs) <;> cases hs
    case invokespecial j =>
      simp only [stp, doC] at hs
      (repeat' split at hs) <;> cases hs
    all_goals (simp only [stp] at hs; (repeat' split at hs) <;> cases hs)

