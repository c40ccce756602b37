/-! the three calls, the JDK's own few, and the whole step -/
section INV
variable {p : Program} {l : Launch} {e : Env} {R : Room} {s : State} {m : MethodId} {args : Array Value} {below : List Frame} {meth : Method} {c : Code} {Q : State → Prop} {X : pX} {k n0 sl0 : Nat}
variable {pc n d : Nat} {x : Int} {ps : List (Int × Nat)} {L st : List Value} {h h' : pH} {a : pF} {cf : Nat → List Value → pH → Option (Option Value × pH)} {H H1 : Heap} {locs locs1 : List Loc} {ls : Array Slot}
theorem okA_len : ∀ {ss : List Nat} {as : List Value}, okA ss as = true → as.length = ss.length := by
  intro ss
  induction ss with
  | nil => intro as h; cases as with
    | nil => rfl
    | cons a l => simp [okA] at h
  | cons t ss ih =>
    intro as h
    cases as with
    | nil => unfold okA at h; split at h <;> simp_all
    | cons a l =>
      unfold okA at h
      split at h <;> simp_all
theorem doC_some {mm : Nat} (hs : doC cf mm pc L st h = some (.inl a)) : (mSig mm).length ≤ st.length ∧ ((st.drop (mSig mm).length).map fun v => v.category).sum ≤ 8 ∧ ∃ v h', cf mm (st.take (mSig mm).length).reverse h = some (v, h') ∧ a = (pc + 3, L, v.toList ++ st.drop (mSig mm).length, h') := by
  unfold doC at hs
  split at hs
  · cases hs
  · rename_i hlen
    split at hs
    · rename_i v h' hc
      simp only [Option.some.injEq, Sum.inl.injEq] at hs
      refine ⟨by omega, by omega, v, h', hc, hs.symm⟩
    · cases hs
theorem room_of {d mx : Nat} (hR : d + 1 ≤ R.frames ∧ 41 * (d + 1) ≤ R.locals) (hm : mx ≤ 20) {cs ss : Nat} : (rmD d cs ss).frames + 1 ≤ R.frames ∧ 8 + (mx + 11) + (rmD d cs ss).locals ≤ R.locals := by
  refine ⟨hR.1, ?_⟩
  show 8 + (mx + 11) + 41 * d ≤ R.locals
  have := hR.2
  omega
theorem so_invokevirtual {j : Nat} (F : fC p s m args meth c X k) (hd : decode (mCode k) pc = .ok (.invokevirtual j, n)) (hn : okE k pc n (.invokevirtual j) x ps = true) (hcf : ∀ mm as hh v hh', cf mm as hh = some (v, hh') → sndM l d mm as hh v hh') (hR : d + 1 ≤ R.frames ∧ 41 * (d + 1) ≤ R.locals)
    (hs : stp cf k pc (.invokevirtual j, x, ps) L st h = some (.inl a)) (hr : a.2.2.2.1.1 - n0 ≤ R.cells ∧ a.2.2.2.1.2 - sl0 ≤ R.slots) (kk : gW p l e R s m args below meth c Q X k n0 sl0 a) : gW p l e R s m args below meth c Q X k n0 sl0 (pc, L, st, h) := by
  intro H locs ls hI hL
  simp only [okE, Bool.and_eq_true, Bool.or_eq_true, decide_eq_true_eq, Bool.not_eq_true'] at hn
  obtain ⟨h1, h2⟩ := hn
  have h1 := okN3 h1
  subst h1
  simp only [stp] at hs
  split at hs
  · rename_i hc
    obtain ⟨hx0, hio⟩ := hc
    obtain ⟨⟨⟨⟨h3, h4⟩, h5⟩, h6⟩, h7⟩ := h2.resolve_left (by omega)
    generalize hmm : x.toNat = mm at *
    obtain ⟨g1, g2, v, h', g3, rfl⟩ := doC_some hs
    obtain ⟨hm, hu, hex, hl1, hl2, hok, hM⟩ := hcf _ _ _ _ _ g3 X hI.1
    obtain ⟨w1, w2, w3, w4, w5, w6, w7, w8⟩ := chW_w hm
    have hf1 : h.1.1 - n0 + (h'.1.1 - h.1.1) ≤ R.cells := by
      have q1 : h'.1.1 - n0 ≤ R.cells := hr.1
      have i2 : n0 ≤ h.1.1 := hI.2.2.2.2.2.1
      omega
    have hf2 : h.1.2 - sl0 + (h'.1.2 - h.1.2) ≤ R.slots := by
      have q1 : h'.1.2 - sl0 ≤ R.slots := hr.2
      have i3 : sl0 ≤ h.1.2 := hI.2.2.2.2.2.2.1
      omega
    have hlen := okA_len hok
    generalize has : (st.take (mSig mm).length).reverse = as at *
    unfold isO at hio
    split at hio
    · rename_i b as'
      simp only [decide_eq_true_eq] at hio
      have w8 := (w8.resolve_left (by rw [h5]; decide)).resolve_left h6
      rw [h5] at w3
      have wi : (Cond.instanceMethod (mYn mm)).before args s = true := by
        have := F.2.2.2.2.1 _ w1
        unfold wMi at this
        rw [h5] at this
        exact this
      have hrecv : ∃ cellB : Cell, H[aD X b]? = some cellB ∧ cellB.vm.isStatics = false ∧ s.vm.findClass (cNm (mOwn mm)) = some cellB.cls := by
        by_cases hb : nX ≤ b
        · obtain ⟨hci, hbl, he⟩ := ob_at hI hb hio
          exact va_recv F.2.2.2.2.2.1 hI.2.1 (cl_at hci) he
        · obtain ⟨b, rfl⟩ : ∃ z : Nat, z = b := ⟨b, rfl⟩
          by_cases hb3 : b < 3
          · obtain ⟨e1, -, -, e4, -⟩ := hI.2.2.2.1.1 b hb3
            have hci : mOwn mm = 11 := by rw [e1] at hio; exact (Sum.inl.inj hio).symm
            have hD : aD X b = X.2.2.2.1 b := if_pos (by omega)
            obtain ⟨cell, q1, q2, q3, -⟩ := va_O.kept e4 hI.2.2.1.2.1
            rw [hD, hci]
            exact ⟨cell, q1, q2, q3⟩
          · obtain ⟨t, nn, e1, -⟩ := hI.2.2.2.1.2.1 b (by omega) (by omega)
            rw [e1] at hio
            cases hio
      refine call_go hI hL (rest := st.drop (mSig mm).length) (aa := (Value.ref (aD X b) :: as'.map (aV X)).toArray) (fun hz => ?_) hu hex hl1 hl2 kk
      refine va_runV (C := cNm (mOwn mm)) (b := aD X b) (As := as'.map (aV X)) (n := (mSig mm).length - 1) (own := cNm (mOwn k)) ⟨F.1, F.2.1, F.2.2.1, F.2.2.2.1, F.2.2.2.2.1⟩ hM ⟨callB_of _ F.2.2.2.2.1 (gin hm) rfl rfl rfl (F.2.2.2.2.1 _ (ini_in _ w6)) (F.2.2.2.2.1 _ (ML_in _ h4)) ⟨w2.1, w2.2, by simpa using w3⟩ (room_of hR w5), wi, F.2.2.2.2.1 _ w8⟩ ⟨Rp_bl, hrecv, fun U hU hW => Rp_of hI F.2.2.2.2.2.1 hz hU hW⟩ rfl ?_ (by rw [hL.1]) ?_ (cat_le g2) hd ⟨?_, ?_⟩
      · rw [List.length_map]
        simp only [List.length_cons] at hlen
        omega
      · show st.map (aV X) = _
        rw [st_split (st := st) (nn := (mSig mm).length), has]
        simp [aV]
      · exact hf1
      · exact hf2
    · cases hio
  · cases hs
theorem so_invokespecial {j : Nat} (F : fC p s m args meth c X k) (hd : decode (mCode k) pc = .ok (.invokespecial j, n)) (hn : okE k pc n (.invokespecial j) x ps = true) (hcf : ∀ mm as hh v hh', cf mm as hh = some (v, hh') → sndM l d mm as hh v hh') (hR : d + 1 ≤ R.frames ∧ 41 * (d + 1) ≤ R.locals)
    (hs : stp cf k pc (.invokespecial j, x, ps) L st h = some (.inl a)) (hr : a.2.2.2.1.1 - n0 ≤ R.cells ∧ a.2.2.2.1.2 - sl0 ≤ R.slots) (kk : gW p l e R s m args below meth c Q X k n0 sl0 a) : gW p l e R s m args below meth c Q X k n0 sl0 (pc, L, st, h) := by
  intro H locs ls hI hL
  simp only [okE, Bool.and_eq_true, Bool.or_eq_true, decide_eq_true_eq, Bool.not_eq_true'] at hn
  obtain ⟨h1, h2⟩ := hn
  have h1 := okN3 h1
  subst h1
  simp only [stp] at hs
  split at hs
  · rename_i hx0
    obtain ⟨⟨⟨⟨h3, h4⟩, h5⟩, h6⟩, h7⟩ := h2.resolve_left (fun q => by omega)
    generalize hmm : x.toNat = mm at *
    obtain ⟨g1, g2, v, h', g3, rfl⟩ := doC_some hs
    obtain ⟨hm, hu, hex, hl1, hl2, hok, hM⟩ := hcf _ _ _ _ _ g3 X hI.1
    obtain ⟨w1, w2, w3, w4, w5, w6, w7, w8⟩ := chW_w hm
    have hf1 : h.1.1 - n0 + (h'.1.1 - h.1.1) ≤ R.cells := by
      have q1 : h'.1.1 - n0 ≤ R.cells := hr.1
      have i2 : n0 ≤ h.1.1 := hI.2.2.2.2.2.1
      omega
    have hf2 : h.1.2 - sl0 + (h'.1.2 - h.1.2) ≤ R.slots := by
      have q1 : h'.1.2 - sl0 ≤ R.slots := hr.2
      have i3 : sl0 ≤ h.1.2 := hI.2.2.2.2.2.2.1
      omega
    have hlen := okA_len hok
    generalize has : (st.take (mSig mm).length).reverse = as at *
    have w7 := w7.resolve_left (by rw [h5]; decide)
    rw [h5] at w3
    have wi : (Cond.instanceMethod (mYn mm)).before args s = true := by
      have := F.2.2.2.2.1 _ w1
      unfold wMi at this
      rw [h5] at this
      exact this
    have hsplit : ∃ (b : Nat) (as' : List Value), as.map (aV X) = .ref b :: as'.map (aV X) ∧ as'.length = as.length - 1 := by
      cases as with
      | nil => simp at hlen; omega
      | cons q as' =>
        have hsig : (mSig mm).head? = some 2 := by
          have hall : ∀ z, z < 258 → mSt z = true ∨ (mSig z).head? = some 2 := by decide +kernel
          exact (hall mm hm).resolve_left (by rw [h5]; decide)
        cases hsg : mSig mm with
        | nil => rw [hsg] at hsig; cases hsig
        | cons t ss =>
          rw [hsg] at hsig hok
          simp only [List.head?_cons, Option.some.injEq] at hsig
          subst hsig
          cases q with
          | ref b => exact ⟨aD X b, as', rfl, by simp⟩
          | _ => simp [okA] at hok
    obtain ⟨b, as', e1, e2⟩ := hsplit
    refine call_go hI hL (rest := st.drop (mSig mm).length) (aa := (Value.ref b :: as'.map (aV X)).toArray) (fun hz => ?_) hu hex hl1 hl2 kk
    rw [e1] at hM
    refine va_runI (b := b) (As := as'.map (aV X)) (n := (mSig mm).length - 1) (own := cNm (mOwn k)) ⟨F.1, F.2.1, F.2.2.1, F.2.2.2.1, F.2.2.2.2.1⟩ hM ⟨callB_of _ F.2.2.2.2.1 (gin hm) (by unfold wMc; rw [h7]) rfl rfl (F.2.2.2.2.1 _ (ini_in _ w6)) (F.2.2.2.2.1 _ (ML_in _ h4)) ⟨w2.1, w2.2, by simpa using w3⟩ (room_of hR w5), h6, wi⟩ ⟨Rp_bl, fun U hU hW => Rp_of hI F.2.2.2.2.2.1 hz hU hW⟩ rfl ?_ (by rw [hL.1]) ?_ (cat_le g2) hd ⟨?_, ?_⟩
    · rw [List.length_map, e2, hlen]
    · show st.map (aV X) = _
      rw [st_split (st := st) (nn := (mSig mm).length), has, e1]
      simp
    · exact hf1
    · exact hf2
  · split at hs
    · rename_i hx1
      have h3 : (mOwn k, j) ∈ OLk := (h2.resolve_right (fun q => by have := q.1.1.1.1; omega)).2
      split at hs
      · rename_i b r
        split at hs
        · rename_i hr4
          simp only [Option.some.injEq, Sum.inl.injEq] at hs
          subst hs
          have hc := cat_le (X := X) (pc := pc) (st := []) (ls := ls) (m := m) (cat4 hr4)
          have h8 : 12 ≤ 41 * (d + 1) := by omega
          refine W.objInit F.1 F.2.1 F.2.2.2.1 (F.2.2.2.2.1 _ (OL_in _ h3)) (F.2.2.2.2.1 _ w_oin) (F.2.2.2.2.1 _ w_oco) rfl (by rw [F.2.2.1]; exact hL.1) (a := aD X b) (rest := r.map (aV X)) rfl hd (by have := hR.1; omega) ?_ (kk H locs ls hI hL)
          have := hR.2
          have hc2 : 2 * 0 + ((r.map (aV X)).map fun v => v.category).sum ≤ 8 := hc
          show 2 * 0 + ((r.map (aV X)).map fun v => v.category).sum + 12 ≤ R.locals
          omega
        · cases hs
      · cases hs
    · cases hs
set_option maxHeartbeats 4000000 in
theorem so_invokestatic {j : Nat} (F : fC p s m args meth c X k) (hd : decode (mCode k) pc = .ok (.invokestatic j, n)) (hn : okE k pc n (.invokestatic j) x ps = true) (hcf : ∀ mm as hh v hh', cf mm as hh = some (v, hh') → sndM l d mm as hh v hh') (hR : d + 1 ≤ R.frames ∧ 41 * (d + 1) ≤ R.locals)
    (hs : stp cf k pc (.invokestatic j, x, ps) L st h = some (.inl a)) (hr : a.2.2.2.1.1 - n0 ≤ R.cells ∧ a.2.2.2.1.2 - sl0 ≤ R.slots) (kk : gW p l e R s m args below meth c Q X k n0 sl0 a) : gW p l e R s m args below meth c Q X k n0 sl0 (pc, L, st, h) := by
  intro H locs ls hI hL
  simp only [okE, Bool.and_eq_true, Bool.or_eq_true, decide_eq_true_eq, Bool.not_eq_true'] at hn
  obtain ⟨h1, h2⟩ := hn
  have h1 := okN3 h1
  subst h1
  simp only [stp] at hs
  split at hs
  · rename_i hx0
    obtain ⟨⟨h3, h4⟩, h5⟩ := h2.resolve_left (fun q => by rcases q with ((q | q) | q) | q <;> omega)
    generalize hmm : x.toNat = mm at *
    obtain ⟨g1, g2, v, h', g3, rfl⟩ := doC_some hs
    obtain ⟨hm, hu, hex, hl1, hl2, hok, hM⟩ := hcf _ _ _ _ _ g3 X hI.1
    obtain ⟨w1, w2, w3, w4, w5, w6, w7, w8⟩ := chW_w hm
    have hlen := okA_len hok
    generalize has : (st.take (mSig mm).length).reverse = as at *
    rw [h5] at w3
    have wi : (Cond.static (mYn mm)).before args s = true := by
      have := F.2.2.2.2.1 _ w1
      unfold wMi at this
      rw [h5] at this
      exact this
    have hstk : st.map (aV X) = (as.map (aV X)).reverse ++ (st.drop (mSig mm).length).map (aV X) := by
      rw [st_split (st := st) (nn := (mSig mm).length), has]
    have hf1 : h.1.1 - n0 + (h'.1.1 - h.1.1) ≤ R.cells := by
      have q1 : h'.1.1 - n0 ≤ R.cells := hr.1
      have i2 : n0 ≤ h.1.1 := hI.2.2.2.2.2.1
      omega
    have hf2 : h.1.2 - sl0 + (h'.1.2 - h.1.2) ≤ R.slots := by
      have q1 : h'.1.2 - sl0 ≤ R.slots := hr.2
      have i3 : sl0 ≤ h.1.2 := hI.2.2.2.2.2.2.1
      omega
    refine call_go hI hL (rest := st.drop (mSig mm).length) (aa := (as.map (aV X)).toArray) (fun hz => ?_) hu hex hl1 hl2 kk
    rcases h4 with h4 | h4
    · exact va_runS (As := as.map (aV X)) (n := (mSig mm).length) (own := cNm (mOwn k)) ⟨F.1, F.2.1, F.2.2.1, F.2.2.2.1, F.2.2.2.2.1⟩ hM ⟨callB_of _ F.2.2.2.2.1 (gin hm) rfl rfl rfl (F.2.2.2.2.1 _ (ini_in _ w6)) (F.2.2.2.2.1 _ (ML_in _ h4)) ⟨w2.1, w2.2, by simpa using w3⟩ (room_of hR w5), wi⟩ ⟨Rp_bl, fun U hU hW => Rp_of hI F.2.2.2.2.2.1 hz hU hW⟩ rfl (by rw [List.length_map, hlen]) (by rw [hL.1]) hstk (cat_le g2) hd ⟨hf1, hf2⟩
    · have hnl : va_Nw (.methodLinkNest (cNm (mOwn k)) j (mYn mm) "PlayedBack") s := by
        have := hI.2.2.2.1.2.2.2.2.2.1 _ h4
        unfold wNL at this
        exact this
      have hini := F.2.2.2.2.1 _ (ini_in _ w6)
      have hcn : va_CN R s args (cNm (mOwn k)) j (mYn mm) "PlayedBack" (mCode mm) (mMax mm) (mRet mm) (wMc mm :: gT) (rmD d (h'.1.1 - h.1.1) (h'.1.2 - h.1.2)) (h'.1.1 - h.1.1) (h'.1.2 - h.1.2) (mSig mm).length := va_cnB (ws' := gT) _ F.2.2.2.2.1 (gin hm) rfl rfl rfl hnl hini ⟨w2.1, w2.2, by simpa using w3⟩ (room_of hR w5)
      exact va_runSN (host := "PlayedBack") (As := as.map (aV X)) (n := (mSig mm).length) (own := cNm (mOwn k)) ⟨F.1, F.2.1, F.2.2.1, F.2.2.2.1, F.2.2.2.2.1⟩ hM ⟨hcn, wi, trivial⟩ ⟨Rp_bl, fun U hU hW => Rp_of hI F.2.2.2.2.2.1 hz hU hW⟩ rfl (by rw [List.length_map, hlen]) (by rw [hL.1]) hstk (cat_le g2) hd ⟨hf1, hf2⟩
  · have hRl := hR.2
    have hRf := hR.1
    have hcl : h.1.1 - n0 ≤ R.cells ∧ h.1.2 - sl0 ≤ R.slots ∨ True := Or.inr trivial
    split at hs
    · rename_i hx1
      have h3 : (mOwn k, j) ∈ ALk := by
        rcases h2 with (((q | q) | q) | q) | q
        · omega
        · exact q.2
        · have := q.1; omega
        · have := q.1; omega
        · have := q.1.1; omega
      split at hs
      · rename_i nn dp b sp b0 r
        split at hs
        · rename_i na nb hsa hsb
          split at hs
          · rename_i hc
            obtain ⟨c1, c2, c3, c4, c5, c6, c7, c8⟩ := hc
            simp only [Option.some.injEq, Sum.inl.injEq] at hs
            subst hs
            have hct := cat_le (X := X) (pc := pc) (st := []) (ls := ls) (m := m) (cat4 c8)
            have hct2 : 2 * 0 + ((r.map (aV X)).map fun v => v.category).sum ≤ 8 := hct
            refine va_copyi F.1 F.2.1 (by rw [F.2.2.1]; exact hL.1.symm) F.2.2.2.1 (F.2.2.2.2.1 _ (AL_in _ h3)) (F.2.2.2.2.1 _ w_nat) (F.2.2.2.2.1 _ w_acs) (F.2.2.2.2.1 _ w_sys) F.2.2.2.2.2.1 hI.2.1 aW_D hI.2.2.1 (b0 - nX) (b - nX) 0 0 (ar_at hI c1 hsa) (ar_at hI c2 hsb) rfl rfl rfl c3 c4 c5 c6 c7 (fun i hi => rfl) (by omega) ?_ hd (fun H1 locs1 hP1 hD1 hS1 => ?_)
            · have hnw : nativeFrameWords "java/lang/System" "arraycopy" 5 + 11 ≤ 33 := by decide +kernel
              omega
            · have hset : (aW X h).set (b - nX) (aD X b, .inl (X.2.2.1 0, nb, .inl (va_cpy (h.2.2.2 b0) (h.2.2.2 b) sp.toNatClampNeg dp.toNatClampNeg nn.toNatClampNeg))) = aW X (h.1, h.2.1, h.2.2.1, va_up h.2.2.2 b (va_cpy (h.2.2.2 b0) (h.2.2.2 b) sp.toNatClampNeg dp.toNatClampNeg nn.toNatClampNeg)) := by
                rw [← aW_set (h := h) (h' := (h.1, h.2.1, h.2.2.1, va_up h.2.2.2 b (va_cpy (h.2.2.2 b0) (h.2.2.2 b) sp.toNatClampNeg dp.toNatClampNeg nn.toNatClampNeg))) (id := b) rfl c2 (fun i hi => aE_congr rfl rfl (up_n hi))]
                congr 2
                simp only [aE, hsb, up_s, if_true]
              rw [hset] at hP1
              exact kk H1 locs1 ls (hI.upd rfl rfl (fun i hi => ⟨rfl, rfl, up_n (by omega)⟩) hP1 hS1) hL
          · cases hs
        · cases hs
      · cases hs
    · split at hs
      · rename_i hx2
        have h3 : (mOwn k, j) ∈ XLk := by
          rcases h2 with (((q | q) | q) | q) | q
          · omega
          · have := q.1; omega
          · exact q.2
          · have := q.1; omega
          · have := q.1.1; omega
        split at hs
        · rename_i y z r
          split at hs
          · rename_i hr4
            simp only [Option.some.injEq, Sum.inl.injEq] at hs
            subst hs
            have hct2 : 2 * 0 + ((r.map (aV X)).map fun v => v.category).sum ≤ 8 := cat_le (X := X) (pc := pc) (st := []) (ls := ls) (m := m) (cat4 hr4)
            exact va_mmax F.1 F.2.1 (by rw [F.2.2.1]; exact hL.1.symm) F.2.2.2.1 (F.2.2.2.2.1 _ (XL_in _ h3)) (F.2.2.2.2.1 _ w_maxs) (F.2.2.2.2.1 _ w_mth) (F.2.2.2.2.1 _ w_maxc) (by omega) (by omega) hr.1 hr.2 hd (kk H locs ls hI hL)
          · cases hs
        · cases hs
      · split at hs
        · rename_i hx2
          have h3 : (mOwn k, j) ∈ YLk := by
            rcases h2 with (((q | q) | q) | q) | q
            · omega
            · have := q.1; omega
            · have := q.1; omega
            · exact q.2
            · have := q.1.1; omega
          split at hs
          · rename_i y z r
            split at hs
            · rename_i hr4
              simp only [Option.some.injEq, Sum.inl.injEq] at hs
              subst hs
              have hct2 : 2 * 0 + ((r.map (aV X)).map fun v => v.category).sum ≤ 8 := cat_le (X := X) (pc := pc) (st := []) (ls := ls) (m := m) (cat4 hr4)
              exact va_mmin F.1 F.2.1 (by rw [F.2.2.1]; exact hL.1.symm) F.2.2.2.1 (F.2.2.2.2.1 _ (YL_in _ h3)) (F.2.2.2.2.1 _ w_mins) (F.2.2.2.2.1 _ w_mth) (F.2.2.2.2.1 _ w_minc) (by omega) (by omega) hr.1 hr.2 hd (kk H locs ls hI hL)
            · cases hs
          · cases hs
        · cases hs
end INV
