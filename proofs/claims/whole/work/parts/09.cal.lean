/-! cells that are made, calls, and whole methods -/
theorem aSz {p : Program} {l : Launch} {e : Env} {R : Room} {s : State} {m : MethodId} {args : Array Value} {below : List Frame} {meth : Method} {c : Code} {X : pX} {n0 sl0 : Nat} {h : pH} {H : Heap} {locs : List Loc} {T : State} {sl : Nat} (hI : aI X s n0 sl0 h H locs) (hT : T.heap = H) (Xs : Stand p l e R s m args below meth c T locs (h.1.1 - n0) sl) : H.size = X.2.2.2.2 + (h.1.1 - nX) := by
  have h1 : (T.setVm s.vm).heap.size ≤ s.heap.size + (h.1.1 - n0) := Xs.same.2.2.1
  have h2 : H.size ≤ s.heap.size + (h.1.1 - n0) := by rw [← hT]; exact h1
  obtain ⟨u, hP, hS, -, g1, g2, -, g3⟩ := hI
  have h3 : s.heap.size ≤ H.size := hS.1
  by_cases hz : h.1.1 = nX
  · omega
  · have h4 := (hP _ _ (aW_at (X := X) (h := h) (id := h.1.1 - 1) (by omega) (by omega))).lt
    simp only at h4
    rw [aD_ge (by omega)] at h4
    omega
section CAL
variable {p : Program} {l : Launch} {e : Env} {R : Room} {s : State} {m : MethodId} {args : Array Value} {below : List Frame} {meth : Method} {c : Code} {Q : State → Prop} {X : pX} {k n0 sl0 : Nat}
variable {pc n : Nat} {x : Int} {ps : List (Int × Nat)} {L st : List Value} {h h' : pH} {a : pF} {cf : Nat → List Value → pH → Option (Option Value × pH)} {H H1 : Heap} {locs locs1 : List Loc} {ls : Array Slot}
theorem pU.al {sh : pSh} {sl : Nat} (hu : pU h) (h1 : ∀ ci, sh = .inl ci → ci < 11) (h2 : ∀ t nn, sh = .inr (t, nn) → t ≠ 1) : pU (pAl h sh sl) := by
  obtain ⟨u1, u2, u3, u4⟩ := hu
  refine ⟨Nat.le_succ_of_le u1, fun i hi => ?_, fun i hi ci hs => ?_, fun i hi t nn hs => ?_⟩
  · have hi : h.1.1 + 1 ≤ i := hi
    show va_up h.2.1 h.1.1 sh i = _
    rw [up_n (by omega)]
    exact u2 i (by omega)
  · have hs : va_up h.2.1 h.1.1 sh i = .inl ci := hs
    by_cases e1 : i = h.1.1
    · subst e1; rw [up_s] at hs; exact h1 ci hs
    · rw [up_n e1] at hs; exact u3 i hi ci hs
  · have hs : va_up h.2.1 h.1.1 sh i = .inr (t, nn) := hs
    by_cases e1 : i = h.1.1
    · subst e1; rw [up_s] at hs; exact h2 t nn hs
    · rw [up_n e1] at hs; exact u4 i hi t nn hs
theorem eX.al {sh : pSh} {sl : Nat} (hu : pU h) : eX h (pAl h sh sl) := fun i hi => ⟨up_n (by have := hu.1; omega), up_n (by have := hu.1; omega), up_n (by have := hu.1; omega)⟩
/-- behind a making: the new cell stands where the abstract one does -/
theorem mk_go {sh : pSh} {sl q : Nat} {E : va_E} {r : List Value} {ofs : Nat} (hI : aI X s n0 sl0 h H locs) (hL : lR X k (mMax k) ls L) (hE : aE X (pAl h sh sl) h.1.1 = E) (h1 : ∀ ci, sh = .inl ci → ci < 11) (h2 : ∀ t nn, sh = .inr (t, nn) → t ≠ 1)
    (hP1 : va_P (aG X) vwCl (aW X h ++ [(q, E)]) H1) (hD1 : va_D (aA X) (aW X h ++ [(q, E)])) (hS1 : va_S (aA X) s.heap H1 locs1)
    (kk : gW p l e R s m args below meth c Q X k n0 sl0 (pc + ofs, L, .ref h.1.1 :: r, pAl h sh sl)) : W p l e R s m args below meth c H1 locs1 (h.1.1 - n0 + 1) (h.1.2 - sl0 + sl) Q (F0 m (pc + ofs) ls (.ref q :: r.map (aV X))) := by
  intro T hT Xs
  have g1 : (T.setVm s.vm).heap.size ≤ s.heap.size + (h.1.1 - n0 + 1) := Xs.same.2.2.1
  have g2 : H1.size ≤ s.heap.size + (h.1.1 - n0 + 1) := by rw [← hT]; exact g1
  obtain ⟨u, hP, hS, hX, i1, i2, i3, i4⟩ := id hI
  have hlen : (aW X h).length = h.1.1 - nX := by simp [aW]
  have hat : (aW X h ++ [(q, E)])[h.1.1 - nX]? = some (q, E) := by
    rw [List.getElem?_append_right (by omega), hlen, Nat.sub_self]; rfl
  have hq1 : q < H1.size := (hP1 _ _ hat).lt
  have hq2 : X.2.2.2.2 ≤ q := hD1.2 _ _ hat
  have hq : q = aD X h.1.1 := by
    rw [aD_ge u.1]
    by_cases hz : q = X.2.2.2.2 + (h.1.1 - nX)
    · exact hz
    · exfalso
      have hlt : q - X.2.2.2.2 < h.1.1 - nX := by omega
      have hj := aW_at (X := X) (h := h) (id := nX + (q - X.2.2.2.2)) (by omega) (by omega)
      rw [show nX + (q - X.2.2.2.2) - nX = q - X.2.2.2.2 by omega] at hj
      have hj2 : (aW X h ++ [(q, E)])[q - X.2.2.2.2]? = some (aD X (nX + (q - X.2.2.2.2)), aE X h (nX + (q - X.2.2.2.2))) := by
        rw [List.getElem?_append_left (by omega)]; exact hj
      have := hD1.1 _ _ _ _ hj2 hat (by
        simp only
        rw [aD_ge (by omega)]
        omega)
      omega
  subst hq
  subst hE
  have hw : aW X h ++ [(aD X h.1.1, aE X (pAl h sh sl) h.1.1)] = aW X (pAl h sh sl) := aW_push (sh := sh) u.1 rfl (fun i hi => aE_congr (up_n (by omega)) (up_n (by omega)) (up_n (by omega)))
  rw [hw] at hP1
  have hI' : aI X s n0 sl0 (pAl h sh sl) H1 locs1 := ⟨u.al h1 h2, hP1, hS1, aX.eX (eX.al u) hX, i1, Nat.le_succ_of_le i2, Nat.le_trans i3 (Nat.le_add_right _ _), i4⟩
  have h9 := kk H1 locs1 ls hI' hL
  have e1 : (pAl h sh sl).1.1 - n0 = h.1.1 - n0 + 1 := by show h.1.1 + 1 - n0 = _; omega
  have e2 : (pAl h sh sl).1.2 - sl0 = h.1.2 - sl0 + sl := by show h.1.2 + sl - sl0 = _; omega
  simp only [e1, e2] at h9
  exact h9 T hT Xs
theorem so_new {j : Nat} (F : fC p s m args meth c X k) (hd : decode (mCode k) pc = .ok (.new j, n)) (hn : okE k pc n (.new j) x ps = true) (hs : stp cf k pc (.new j, x, ps) L st h = some (.inl a)) (hr : a.2.2.2.1.1 - n0 ≤ R.cells ∧ a.2.2.2.1.2 - sl0 ≤ R.slots) (kk : gW p l e R s m args below meth c Q X k n0 sl0 a) : gW p l e R s m args below meth c Q X k n0 sl0 (pc, L, st, h) := by
  intro H locs ls hI hL
  simp only [okE, Bool.and_eq_true, decide_eq_true_eq] at hn
  obtain ⟨⟨⟨h1, h2⟩, h3⟩, h4⟩ := hn
  have h1 := okN3 h1
  subst h1
  simp only [stp, Option.some.injEq, Sum.inl.injEq] at hs
  subst hs
  have hw := F.2.2.2.2.1 _ (CS_in _ h3)
  have q1 : h.1.1 + 1 - n0 ≤ R.cells := hr.1
  have q2 : h.1.2 + cNf x.toNat - sl0 ≤ R.slots := hr.2
  have i2 : n0 ≤ h.1.1 := hI.2.2.2.2.2.1
  have i3 : sl0 ≤ h.1.2 := hI.2.2.2.2.2.2.1
  have hq1 : h.1.1 - n0 + 1 ≤ R.cells := by omega
  have hq2 : h.1.2 - sl0 + cNf x.toNat ≤ R.slots := by omega
  refine va_new (C := cNm x.toNat) (T := cTt x.toNat) (N := cNf x.toNat) (ci := x.toNat) (fs := (List.range (cNf x.toNat)).map fun k => aV X (fv (pAl h (.inl x.toNat) (cNf x.toNat)) h.1.1 x.toNat k)) F.1 F.2.1 F.2.2.2.2.1 (us_ok h4) (cTy x.toNat) (ty_ok h4) F.2.2.2.1 hw (F.2.2.2.2.1 _ (ins_in _ h4)) (F.2.2.2.2.1 _ (ini_in _ (by omega))) F.2.2.2.2.2.1 hI.2.1 aW_D hI.2.2.1 (fun q hq => ?_) (cl_at h4) (fun j hj => ?_) hq1 hq2 hd (fun q H1 hP1 hD1 hS1 => ?_)
  · show X.2.2.2.2 ≤ q
    have := hI.2.2.2.2.2.2.2
    omega
  · have hk := kd_ty h4 j hj
    have hk2 := kd_le _ h4 j hj
    rw [ftk_d (by rw [hk]; exact hk2), hk]
    simp only [vp_V, List.getD_eq_getElem?_getD, List.getElem?_map, List.getElem?_range hj, Option.map_some, Option.getD_some, fv, pAl, up_s]
    split <;> rfl
  · exact mk_go hI hL (by simp only [aE, pAl, up_s]) (fun ci q => by cases q; exact h4) (fun t nn q => by cases q) hP1 hD1 hS1 kk
theorem so_newarray {t : ArrayType} (F : fC p s m args meth c X k) (hd : decode (mCode k) pc = .ok (.newarray t, n)) (hn : okE k pc n (.newarray t) x ps = true) (hs : stp cf k pc (.newarray t, x, ps) L st h = some (.inl a)) (hr : a.2.2.2.1.1 - n0 ≤ R.cells ∧ a.2.2.2.1.2 - sl0 ≤ R.slots) (kk : gW p l e R s m args below meth c Q X k n0 sl0 a) : gW p l e R s m args below meth c Q X k n0 sl0 (pc, L, st, h) := by
  intro H locs ls hI hL
  simp only [okE, Bool.and_eq_true, decide_eq_true_eq] at hn
  obtain ⟨h1, h2⟩ := hn
  have h1 := okN2 h1
  subst h1; subst h2
  simp only [stp] at hs
  split at hs
  · rename_i y r
    split at hs
    · rename_i hc
      simp only [Option.some.injEq, Sum.inl.injEq] at hs
      subst hs
      have q1 : h.1.1 + 1 - n0 ≤ R.cells := hr.1
      have q2 : h.1.2 + y.toNatClampNeg - sl0 ≤ R.slots := hr.2
      have i2 : n0 ≤ h.1.1 := hI.2.2.2.2.2.1
      have i3 : sl0 ≤ h.1.2 := hI.2.2.2.2.2.2.1
      have hq1 : h.1.1 - n0 + 1 ≤ R.cells := by omega
      have hq2 : h.1.2 - sl0 + y.toNatClampNeg ≤ R.slots := by omega
      refine va_newa (atype := .int) (ty := .int) (a0 := (y.toNatClampNeg, .inl (fun _ => 0))) F.1 F.2.1 (F.2.2.2.2.1 _ w_arrI) rfl F.2.2.2.2.2.1 hI.2.1 aW_D hI.2.2.1 (fun q hq => ?_) (fun cA => rfl) hc.1 rfl (by show _ * 4 ≤ _; omega) hq1 hq2 hd (fun q cA H1 hK1 hP1 hD1 hS1 => ?_)
      · show X.2.2.2.2 ≤ q
        have := hI.2.2.2.2.2.2.2
        omega
      · have e1 : s.vm.findClass ("[" ++ FieldType.int.toString) = some cA := (hK1.2 3 _ rfl).2
        have e2 : s.vm.findClass ("[" ++ FieldType.int.toString) = some (X.2.2.1 0) := (F.2.2.2.2.2.1.2 0 _ rfl).2
        have e3 : cA = X.2.2.1 0 := Option.some.inj (e1.symm.trans e2)
        subst e3
        exact mk_go hI hL (by simp only [aE, pAl, up_s, if_true]) (fun ci q => by cases q) (fun t nn q => by cases q; decide) hP1 hD1 hS1 kk
    · cases hs
  · cases hs
theorem so_anewarray {j : Nat} (F : fC p s m args meth c X k) (hd : decode (mCode k) pc = .ok (.anewarray j, n)) (hn : okE k pc n (.anewarray j) x ps = true) (hs : stp cf k pc (.anewarray j, x, ps) L st h = some (.inl a)) (hr : a.2.2.2.1.1 - n0 ≤ R.cells ∧ a.2.2.2.1.2 - sl0 ≤ R.slots) (kk : gW p l e R s m args below meth c Q X k n0 sl0 a) : gW p l e R s m args below meth c Q X k n0 sl0 (pc, L, st, h) := by
  intro H locs ls hI hL
  simp only [okE, Bool.and_eq_true, Bool.or_eq_true, decide_eq_true_eq] at hn
  obtain ⟨h1, h2⟩ := hn
  have h1 := okN3 h1
  subst h1
  simp only [stp] at hs
  split at hs
  · rename_i y r
    split at hs
    · rename_i hc
      simp only [Option.some.injEq, Sum.inl.injEq] at hs
      subst hs
      have q1 : h.1.1 + 1 - n0 ≤ R.cells := hr.1
      have q2 : h.1.2 + y.toNatClampNeg - sl0 ≤ R.slots := hr.2
      have i2 : n0 ≤ h.1.1 := hI.2.2.2.2.2.1
      have i3 : sl0 ≤ h.1.2 := hI.2.2.2.2.2.2.1
      have hq1 : h.1.1 - n0 + 1 ≤ R.cells := by omega
      have hq2 : h.1.2 - sl0 + y.toNatClampNeg ≤ R.slots := by omega
      have hA : ∀ q, s.heap.size ≤ q → aA X q := fun q hq => by
        show X.2.2.2.2 ≤ q
        have := hI.2.2.2.2.2.2.2
        omega
      rcases h2 with ⟨rfl, h2⟩ | ⟨rfl, h2⟩
      · have hw := F.2.2.2.2.1 _ (CS_in _ h2)
        refine va_newq (C := RX5) (N' := y.toNatClampNeg) F.1 F.2.1 F.2.2.2.1 hw hI.2.2.2.1.2.2.2.2.2.2.1 F.2.2.2.2.2.1 hI.2.1 aW_D hI.2.2.1 hA hc.1 rfl (by omega) hq1 hq2 hd (fun q cA H1 hK1 hP1 hD1 hS1 => ?_)
        obtain ⟨_, _, _, _, _, e1⟩ := (hK1.2 3 _ rfl).2
        obtain ⟨_, _, _, _, _, e2⟩ := (F.2.2.2.2.2.1.2 1 _ rfl).2
        have e3 : cA = X.2.2.1 2 := Option.some.inj (e1.symm.trans e2)
        subst e3
        exact mk_go hI hL (by simp only [aE, pAl, up_s]; rfl) (fun ci q => by cases q) (fun t nn q => by cases q; decide) hP1 hD1 hS1 kk
      · have hw := F.2.2.2.2.1 _ (CS_in _ h2)
        refine va_newq (C := RX6) (N' := y.toNatClampNeg) F.1 F.2.1 F.2.2.2.1 hw hI.2.2.2.1.2.2.2.2.2.2.2 F.2.2.2.2.2.1 hI.2.1 aW_D hI.2.2.1 hA hc.1 rfl (by omega) hq1 hq2 hd (fun q cA H1 hK1 hP1 hD1 hS1 => ?_)
        obtain ⟨_, _, _, _, _, e1⟩ := (hK1.2 3 _ rfl).2
        obtain ⟨_, _, _, _, _, e2⟩ := (F.2.2.2.2.2.1.2 2 _ rfl).2
        have e3 : cA = X.2.2.1 3 := Option.some.inj (e1.symm.trans e2)
        subst e3
        exact mk_go hI hL (by simp only [aE, pAl, up_s]; rfl) (fun ci q => by cases q) (fun t nn q => by cases q; decide) hP1 hD1 hS1 kk
    · cases hs
  · cases hs
/-! calls -/
def rmD (d cs ss : Nat) : Room := { frames := d, cells := cs, slots := ss, locals := 41 * d }
def Rp (X : pX) (h : pH) (U : State) : Prop := U.heap.size = X.2.2.2.2 + (h.1.1 - nX) ∧ va_P (aG X) vwCl (aW X h) U.heap ∧ va_K (aG X) vwCl (aT X) U ∧ aX X h U U.heap
def QM (X : pX) (h' : pH) (v : Option Value) : Array Value → State → Outcome → State → Prop := fun _ st oc t => oc = .returned (v.map (aV X)) ∧ va_P (aG X) vwCl (aW X h') t.heap ∧ va_F (aA X) st t
/-- what a call of the abstract machine says of the machine -/
def sndM (l : Launch) (d mm : Nat) (as : List Value) (h : pH) (v : Option Value) (h' : pH) : Prop := ∀ X : pX, pU h → mm < 258 ∧ pU h' ∧ eX h h' ∧ h.1.1 ≤ h'.1.1 ∧ h.1.2 ≤ h'.1.2 ∧ okA (mSig mm) as = true ∧
  Met l (mYn mm) (wMc mm :: gT) (rmD d (h'.1.1 - h.1.1) (h'.1.2 - h.1.2)) (va_Pc (as.map (aV X)) (Rp X h)) (QM X h' v) (h'.1.1 - h.1.1) (h'.1.2 - h.1.2) (aA X)
theorem call_go {v : Option Value} {rest : List Value} {st0 : List Value} {aa : Array Value} (hI : aI X s n0 sl0 h H locs) (hL : lR X k (mMax k) ls L)
    (hr : H.size = X.2.2.2.2 + (h.1.1 - nX) → va_Run p l e R s m args below meth c H locs (h.1.1 - n0) (h.1.2 - sl0) (h'.1.1 - h.1.1) (h'.1.2 - h.1.2) (F0 m pc ls st0) (rest.map (aV X)) (QM X h' v aa) (aA X))
    (hu : pU h') (hx : eX h h') (hl1 : h.1.1 ≤ h'.1.1) (hl2 : h.1.2 ≤ h'.1.2) (kk : gW p l e R s m args below meth c Q X k n0 sl0 (pc + 3, L, v.toList ++ rest, h')) :
    W p l e R s m args below meth c H locs (h.1.1 - n0) (h.1.2 - sl0) Q (F0 m pc ls st0) := by
  intro T hT Xs
  obtain ⟨u, hP, hS, hX, i1, i2, i3, i4⟩ := id hI
  obtain ⟨v1, sta, t, T', L1, g0, X', hL1, e1, e2, ⟨hv, hP', hF⟩, st⟩ := hr (aSz hI hT Xs) T hT Xs
  have hv1 : v1 = v.map (aV X) := Outcome.returned.inj hv
  subst hv1
  have hI' : aI X s n0 sl0 h' T'.heap (locs ++ L1) := by
    refine ⟨hu, by rw [e1]; exact hP', ⟨?_, fun q h1 h2 => ?_, fun q hq => ?_⟩, aX.eX hx hX, i1, Nat.le_trans i2 hl1, Nat.le_trans i3 hl2, i4⟩
    · rw [e1]
      exact Nat.le_trans hS.1 (by have := hF.1; rw [g0] at this; exact this)
    · rw [e1, hF.2 q (by rw [g0]; exact Nat.lt_of_lt_of_le h1 hS.1) h2, g0]
      exact hS.2.1 q h1 h2
    · rcases List.mem_append.mp hq with z | z
      · exact hS.2.2 q z
      · exact hL1 q z
  have h9 := kk T'.heap (locs ++ L1) ls hI' hL
  have c1 : h.1.1 - n0 + (h'.1.1 - h.1.1) = h'.1.1 - n0 := by omega
  have c2 : h.1.2 - sl0 + (h'.1.2 - h.1.2) = h'.1.2 - sl0 := by omega
  rw [c1, c2] at X'
  obtain ⟨t2, a1, b1⟩ := h9 T' rfl X'
  refine ⟨t2, st t2 ?_, b1⟩
  have e9 : (v.toList ++ rest).map (aV X) = (v.map (aV X)).toList ++ rest.map (aV X) := by cases v <;> rfl
  rw [e9] at a1
  exact a1
theorem gin {mm : Nat} (hm : mm < 258) : GoodIn gT (wMc mm :: gT) := by
  have hw := chW_all hm
  unfold chW at hw
  simp only [Bool.and_eq_true] at hw
  intro w hw2
  have h1 : w ∈ gT := by
    rcases List.mem_cons.mp hw2 with rfl | h
    · exact gT_i (by simp only [Bool.and_eq_true]; exact hw.1.1.1.1.1.1.1.1)
    · exact h
  exact ⟨h1, good_of_word (gT_good w h1)⟩
theorem chW_w {mm : Nat} (hm : mm < 258) : wMi mm ∈ gT ∧ ((mYn mm).cls ≠ "java/lang/invoke/MethodHandle" ∧ (mYn mm).cls ≠ "java/lang/invoke/VarHandle") ∧ (parseMethodDescriptor (mYn mm).desc).map (fun d => d.parameters.length) = some (if mSt mm then (mSig mm).length else (mSig mm).length - 1) ∧ plainName (mYn mm).cls = true ∧ mMax mm ≤ 20 ∧ mOwn mm < 15 ∧ (mSt mm = true ∨ 1 ≤ (mSig mm).length) ∧ (mSt mm = true ∨ (mYn mm).name = "<init>" ∨ Cond.selects (cNm (mOwn mm)) (mYn mm) (mYn mm) ∈ gT) := by
  have hw := chW_all hm
  unfold chW at hw
  simp only [Bool.and_eq_true, Bool.or_eq_true, decide_eq_true_eq] at hw
  obtain ⟨⟨⟨⟨⟨⟨⟨⟨-, h2⟩, h3⟩, h4⟩, h5⟩, h6⟩, h7⟩, h8⟩, h9⟩ := hw
  refine ⟨gT_i (by simp only [Bool.and_eq_true, decide_eq_true_eq]; exact h2), h4, h5, h6, h7, h8, h9, ?_⟩
  rcases h3 with (h3 | h3) | h3
  · exact Or.inl h3
  · exact Or.inr (Or.inl h3)
  · exact Or.inr (Or.inr (gT_i (by simp only [Bool.and_eq_true, decide_eq_true_eq]; exact h3)))
theorem st_split {st : List Value} {nn : Nat} : st.map (aV X) = (((st.take nn).reverse.map (aV X))).reverse ++ (st.drop nn).map (aV X) := by
  rw [List.map_reverse, List.reverse_reverse, ← List.map_append, List.take_append_drop]
theorem cat4 {r : List Value} (h : r.length ≤ 4) : (r.map fun v => v.category).sum ≤ 8 := by
  have h2 : ∀ r : List Value, (r.map fun v => v.category).sum ≤ 2 * r.length := by
    intro r
    induction r with
    | nil => simp
    | cons v r ih =>
      have : v.category ≤ 2 := by rcases lv_cat v with q | q <;> omega
      simp only [List.map_cons, List.sum_cons, List.length_cons]
      omega
  have := h2 r
  omega
theorem cat_le {r : List Value} (h : (r.map fun v => v.category).sum ≤ 8) : 2 * (F0 m pc ls st).monitorRoom + ((r.map (aV X)).map fun v => v.category).sum ≤ 8 := by
  have h1 : (F0 m pc ls st).monitorRoom = 0 := rfl
  rw [h1]
  have h2 : ∀ r : List Value, ((r.map (aV X)).map fun v => v.category).sum = (r.map fun v => v.category).sum := by
    intro r
    induction r with
    | nil => rfl
    | cons v r ih =>
      simp only [List.map_cons, List.sum_cons, aV_cat] at ih ⊢
      omega
  have := h2 r
  omega
theorem Rp_of {U : State} {aa : List Value} (hI : aI X s n0 sl0 h H locs) (hK : va_K (aG X) vwCl (aT X) s) (hz : H.size = X.2.2.2.2 + (h.1.1 - nX)) (hU : U.heap = H) (hW : s.WarmedH U.vm) : va_Pc aa (Rp X h) aa.toArray U :=
  ⟨rfl, by rw [hU]; exact hz, by rw [hU]; exact hI.2.1, hK.moved hW.alike, by
    rw [hU]
    exact aX.kept (fun q h1 h2 => hI.2.2.1.2.1 q h1 h2) (aX.moved hW hI.2.2.2.1)⟩
theorem Rp_bl {aa : List Value} : FrameBlind (va_Pc aa (Rp X h)) := fun _ U g mk q => ⟨q.1, q.2.1, q.2.2.1, q.2.2.2.1.moved (Vm.Alike.refl U.vm), aX.same (u := U) (U := U.calling g mk _) rfl q.2.2.2.2⟩
end CAL
