/-! instructions that read and write cells, make them, and call -/
section STQ
variable {p : Program} {l : Launch} {e : Env} {R : Room} {s : State} {m : MethodId} {args : Array Value} {below : List Frame} {meth : Method} {c : Code} {Q : State → Prop} {X : pX} {k n0 sl0 : Nat}
variable {pc n : Nat} {x : Int} {ps : List (Int × Nat)} {L st : List Value} {h h' : pH} {a : pF} {cf : Nat → List Value → pH → Option (Option Value × pH)} {H H1 : Heap} {locs locs1 : List Loc} {ls : Array Slot}
theorem aE_congr {i : Nat} (e1 : h'.2.1 i = h.2.1 i) (e2 : h'.2.2.1 i = h.2.2.1 i) (e3 : h'.2.2.2 i = h.2.2.2 i) : aE X h' i = aE X h i := by
  simp only [aE, fv, e1, e2, e3]
theorem up_s {α : Type} {f : Nat → α} {k : Nat} {v : α} : va_up f k v k = v := if_pos rfl
theorem up_n {α : Type} {f : Nat → α} {k j : Nat} {v : α} (h : j ≠ k) : va_up f k v j = f j := if_neg h
theorem aI.upd (hI : aI X s n0 sl0 h H locs) (e1 : h'.1 = h.1) (e2 : h'.2.1 = h.2.1) (he : eX h h') (hP : va_P (aG X) vwCl (aW X h') H1) (hS : va_S (aA X) s.heap H1 locs1) : aI X s n0 sl0 h' H1 locs1 := by
  obtain ⟨⟨u1, u2, u3, u4⟩, -, -, h4, h5, h6, h7, h8⟩ := hI
  refine ⟨⟨by rw [e1]; exact u1, by rw [e1, e2]; exact u2, by rw [e2]; exact u3, by rw [e2]; exact u4⟩, hP, hS, aX.eX he h4, h5, by rw [e1]; exact h6, by rw [e1]; exact h7, h8⟩
theorem ob_at {b ci : Nat} (hI : aI X s n0 sl0 h H locs) (ha : nX ≤ b) (hsh : h.2.1 b = .inl ci) : ci < 11 ∧ b < h.1.1 ∧ (aW X h)[b - nX]? = some (aD X b, .inr (ci, (List.range (cNf ci)).map fun k => aV X (fv h b ci k))) := by
  have hlt : b < h.1.1 := hI.1.lt hsh (fun q => by cases q)
  refine ⟨hI.1.2.2.1 b ha ci hsh, hlt, ?_⟩
  rw [aW_at ha hlt]
  simp only [aE, hsh]
theorem ar_at {b nn : Nat} (hI : aI X s n0 sl0 h H locs) (ha : nX ≤ b) (hsh : h.2.1 b = .inr (0, nn)) : (aW X h)[b - nX]? = some (aD X b, .inl (X.2.2.1 0, nn, .inl (h.2.2.2 b))) := by
  have hlt : b < h.1.1 := hI.1.lt hsh (fun q => by cases q)
  rw [aW_at ha hlt]
  simp only [aE, hsh, if_true]
theorem rr_at {b t nn : Nat} (hI : aI X s n0 sl0 h H locs) (ha : nX ≤ b) (hsh : h.2.1 b = .inr (t, nn)) (ht : t ≠ 0) (ht9 : t ≠ 9) : (aW X h)[b - nX]? = some (aD X b, .inl (X.2.2.1 t, nn, .inr (.inr (.inr (.inr fun j => (h.2.2.1 b j).map (aD X)))))) := by
  have hlt : b < h.1.1 := hI.1.lt hsh (fun q => by cases q; exact ht9 rfl)
  rw [aW_at ha hlt]
  simp only [aE, hsh, if_neg ht]
theorem aV_rf {o : Option Nat} : aV X (va_rf o) = va_rf (o.map (aD X)) := by cases o <;> rfl
theorem ftk_0 {t : FieldType} (h : ftk t = 0) : t = .int := by cases t <;> first | rfl | (simp [ftk] at h)
theorem ftk_1 {t : FieldType} (h : ftk t = 1) : t = .boolean := by cases t <;> first | rfl | (simp [ftk] at h)
theorem ftk_2 {t : FieldType} (h : ftk t = 2) : ∀ b, narrow t (.ref b) = .ref b ∧ fits t (.ref b) = true := by cases t <;> first | (intro b; exact ⟨rfl, rfl⟩) | (simp [ftk] at h)
theorem ftk_d {t : FieldType} (h : ftk t ≤ 2) : defaultValue t = if ftk t = 2 then .null else .int 0 := by cases t <;> first | rfl | (simp [ftk] at h)
theorem kd_le : ∀ c, c < 11 → ∀ k, k < cNf c → (cKd c).getD k 0 ≤ 2 := by decide +kernel
theorem so_getfield {j : Nat} (F : fC p s m args meth c X k) (hd : decode (mCode k) pc = .ok (.getfield j, n)) (hn : okE k pc n (.getfield j) x ps = true) (hs : stp cf k pc (.getfield j, x, ps) L st h = some (.inl a)) (kk : gW p l e R s m args below meth c Q X k n0 sl0 a) : gW p l e R s m args below meth c Q X k n0 sl0 (pc, L, st, h) := by
  intro H locs ls hI hL
  simp only [okE, Bool.and_eq_true, decide_eq_true_eq] at hn
  obtain ⟨⟨h1, h2⟩, h3⟩ := hn
  have h1 := okN3 h1
  subst h1
  have hw := F.2.2.2.2.1 _ (FL_in _ h3)
  simp only [stp] at hs
  split at hs
  · rename_i b r
    obtain ⟨b, rfl⟩ : ∃ z : Nat, z = b := ⟨b, rfl⟩
    split at hs
    · rename_i hc
      obtain ⟨hsh, hlt⟩ := hc
      simp only [Option.some.injEq, Sum.inl.injEq] at hs
      subst hs
      have h9 := kk H locs ls hI hL
      by_cases hb : nX ≤ b
      · obtain ⟨hci, hbl, he⟩ := ob_at hI hb hsh
        exact va_get (C := cNm (x.toNat / 32)) (T := cTt (x.toNat / 32)) (N := cNf (x.toNat / 32)) F.1 F.2.1 F.2.2.2.2.1 (us_ok hci) F.2.2.2.1 F.2.2.2.2.2.1 hI.2.1 (b - nX) he (cl_at hci) (x.toNat % 32) hlt hw (fun _ q => q) (by simp [hlt]) hd h9
      · by_cases hb3 : b < 3
        · obtain ⟨e1, e2, e3, e4, e5, e6⟩ := hI.2.2.2.1.1 b hb3
          have hci : x.toNat / 32 = 11 := by rw [e1] at hsh; exact (Sum.inl.inj hsh).symm
          have hD : aD X b = X.2.2.2.1 b := if_pos (by omega)
          simp only [wFL] at hw
          rw [hci] at hw h9 hlt
          have hz : x.toNat % 32 = 0 ∨ x.toNat % 32 = 1 := by
            have : cNf 11 = 2 := rfl
            omega
          rcases hz with hz | hz
          · rw [hz] at hw h9
            have e9 : fv h b 11 0 = .ref (3 + b) := by
              show va_rf (h.2.2.1 b 0) = _
              rw [e3]; rfl
            have hD2 : aD X (3 + b) = X.2.2.2.1 (3 + b) := if_pos (by show 3 + b < 10; have hz : nX = 10 := rfl; omega)
            simp only [List.map_cons, e9, aV, hD, hD2] at h9 ⊢
            exact vk_getf F.1 F.2.1 e6 hI.2.2.1 F.2.2.2.1 hw (fun _ q => q) hd h9
          · rw [hz] at hw h9
            have e9 : fv h b 11 1 = .int 0 := by
              show Value.int (h.2.2.2 b 1) = _
              rw [e2]
            simp only [List.map_cons, e9, aV, hD] at h9 ⊢
            exact vk_getf F.1 F.2.1 e5 hI.2.2.1 F.2.2.2.1 hw (fun _ q => q) hd h9
        · obtain ⟨t, nn, e1, -⟩ := hI.2.2.2.1.2.1 b (by have hz : nX = 10 := rfl; omega) (by have hz : nX = 10 := rfl; omega)
          rw [e1] at hsh
          cases hsh
    · cases hs
  · cases hs
theorem so_putfield {j : Nat} (F : fC p s m args meth c X k) (hd : decode (mCode k) pc = .ok (.putfield j, n)) (hn : okE k pc n (.putfield j) x ps = true) (hs : stp cf k pc (.putfield j, x, ps) L st h = some (.inl a)) (kk : gW p l e R s m args below meth c Q X k n0 sl0 a) : gW p l e R s m args below meth c Q X k n0 sl0 (pc, L, st, h) := by
  intro H locs ls hI hL
  simp only [okE, Bool.and_eq_true, decide_eq_true_eq] at hn
  obtain ⟨⟨⟨⟨h1, h2⟩, h3⟩, h4⟩, h5⟩ := hn
  have h1 := okN3 h1
  subst h1
  have hw := F.2.2.2.2.1 _ (FL_in _ h3)
  generalize hci : x.toNat / 32 = ci at h4
  generalize hsl : x.toNat % 32 = sl at h5
  have key : ∀ (v : Value) (h' : pH) (b : Nat) (r : List Value), h.2.1 b = .inl ci → sl < cNf ci → nX ≤ b → h'.1 = h.1 → h'.2.1 = h.2.1 → (∀ i, i ≠ b → h'.2.2.1 i = h.2.2.1 i ∧ h'.2.2.2 i = h.2.2.2 i) →
      fv h' b ci sl = v → (∀ q, q ≠ sl → fv h' b ci q = fv h b ci q) → narrow (cTy ci sl) (aV X v) = aV X v → fits (cTy ci sl) (aV X v) = true →
      gW p l e R s m args below meth c Q X k n0 sl0 (pc + 3, L, r, h') → W p l e R s m args below meth c H locs (h.1.1 - n0) (h.1.2 - sl0) Q (F0 m pc ls (aV X v :: .ref (aD X b) :: r.map (aV X))) := by
    intro v h' b r hsh hlt hb e1 e2 ho hv hf hnar hfit kk
    obtain ⟨-, hbl, he⟩ := ob_at hI hb hsh
    have hset : (aW X h).set (b - nX) (aD X b, .inr (ci, ((List.range (cNf ci)).map fun k => aV X (fv h b ci k)).set sl (aV X v))) = aW X h' := by
      rw [← aW_set (h := h) (h' := h') (id := b) (by rw [e1]) hb (fun i hi => aE_congr (by rw [e2]) (ho i hi).1 (ho i hi).2)]
      congr 2
      simp only [aE, e2, hsh]
      congr 1
      rw [Prod.mk.injEq]
      refine ⟨rfl, ?_⟩
      rw [← hv]
      exact (rm_set (f := fun k => aV X (fv h b ci k)) (g := fun k => aV X (fv h' b ci k)) hlt (fun q hq => by rw [hf q hq])).symm
    have hX : eX h h' := fun i hi => ⟨by rw [e2], (ho i (by omega)).1, (ho i (by omega)).2⟩
    subst hci; subst hsl
    by_cases hfin : (cTt (x.toNat / 32) (x.toNat % 32)).2.2.2 = true
    · rw [if_pos hfin] at h5
      simp only [Bool.and_eq_true, decide_eq_true_eq] at h5
      refine va_putF (C := cNm (x.toNat / 32)) (T := cTt (x.toNat / 32)) (N := cNf (x.toNat / 32)) F.1 F.2.1 F.2.2.2.2.1 (us_ok h4) (cTy (x.toNat / 32)) (ty_ok h4) (nm_ok h4) F.2.2.2.1 F.2.2.2.2.2.1 hI.2.1 aW_D hI.2.2.1 (b - nX) he (cl_at h4) (x.toNat % 32) hlt hw (fun _ q => q) hfin (F.2.2.2.2.2.2.1.trans h5.1) h5.2 (ty_ok h4 _ hlt) hnar hfit (by simp [hlt]) hd (fun H1 locs1 hP1 hD1 hS1 => ?_)
      have h9 := kk H1 locs1 ls (hI.upd e1 e2 hX (by rw [← hset]; exact hP1) hS1) hL
      simp only [e1] at h9
      exact h9
    · refine va_put (C := cNm (x.toNat / 32)) (T := cTt (x.toNat / 32)) (N := cNf (x.toNat / 32)) F.1 F.2.1 F.2.2.2.2.1 (us_ok h4) (cTy (x.toNat / 32)) (ty_ok h4) (nm_ok h4) F.2.2.2.1 F.2.2.2.2.2.1 hI.2.1 aW_D hI.2.2.1 (b - nX) he (cl_at h4) (x.toNat % 32) hlt hw (fun _ q => q) (by simpa using hfin) (ty_ok h4 _ hlt) hnar hfit (by simp [hlt]) hd (fun H1 locs1 hP1 hD1 hS1 => ?_)
      have h9 := kk H1 locs1 ls (hI.upd e1 e2 hX (by rw [← hset]; exact hP1) hS1) hL
      simp only [e1] at h9
      exact h9
  simp only [stp, hci, hsl] at hs
  split at hs
  · rename_i v b r
    split at hs
    · rename_i hc
      obtain ⟨hsh, hlt, hb, hkd⟩ := hc
      simp only [Option.some.injEq, Sum.inl.injEq] at hs
      subst hs
      have hk9 := kd_ty h4 sl hlt
      have hk2 : ¬ (cKd ci).getD sl 0 = 2 := by rcases hkd with q | ⟨q, -⟩ <;> rw [q] <;> decide
      refine key (.int v) (h.1, h.2.1, h.2.2.1, uI h.2.2.2 b sl v) b r hsh hlt hb rfl rfl (fun i hi => ⟨rfl, up_n hi⟩) ?_ (fun q hq => ?_) ?_ ?_ kk
      · simp only [fv, if_neg hk2, uI, up_s]
        rw [pk_us]
      · simp only [fv, uI, up_s]
        rw [pk_un hq]
      · rcases hkd with q | ⟨q, q2⟩
        · rw [ftk_0 (hk9.trans q)]; rfl
        · rw [ftk_1 (hk9.trans q)]
          rcases q2 with rfl | rfl
          · show narrow .boolean (.int 0) = .int 0
            decide
          · show narrow .boolean (.int 1) = .int 1
            decide
      · rcases hkd with q | ⟨q, q2⟩
        · rw [ftk_0 (hk9.trans q)]; rfl
        · rw [ftk_1 (hk9.trans q)]
          rcases q2 with rfl | rfl
          · show fits .boolean (.int 0) = true
            decide
          · show fits .boolean (.int 1) = true
            decide
    · cases hs
  · rename_i v b r
    split at hs
    · rename_i hc
      obtain ⟨hsh, hlt, hb, hkd⟩ := hc
      simp only [Option.some.injEq, Sum.inl.injEq] at hs
      subst hs
      have hk9 := (kd_ty h4 sl hlt).trans hkd
      refine key (.ref v) (h.1, h.2.1, uR h.2.2.1 b sl (some v), h.2.2.2) b r hsh hlt hb rfl rfl (fun i hi => ⟨up_n hi, rfl⟩) ?_ (fun q hq => ?_) (ftk_2 hk9 _).1 (ftk_2 hk9 _).2 kk
      · simp only [fv, if_pos hkd, uR, up_s]
        rfl
      · simp only [fv, uR, up_s, up_n hq]
    · cases hs
  · cases hs
theorem so_getstatic {j : Nat} (F : fC p s m args meth c X k) (hd : decode (mCode k) pc = .ok (.getstatic j, n)) (hn : okE k pc n (.getstatic j) x ps = true) (hs : stp cf k pc (.getstatic j, x, ps) L st h = some (.inl a)) (kk : gW p l e R s m args below meth c Q X k n0 sl0 a) : gW p l e R s m args below meth c Q X k n0 sl0 (pc, L, st, h) := by
  intro H locs ls hI hL
  simp only [okE, Bool.and_eq_true, decide_eq_true_eq] at hn
  obtain ⟨⟨h1, h2⟩, h3⟩ := hn
  have h1 := okN3 h1
  subst h1
  have hw := F.2.2.2.2.1 _ (ST_in _ h3)
  simp only [stp, Option.some.injEq, Sum.inl.injEq] at hs
  subst hs
  have h9 := kk H locs ls hI hL
  by_cases hx3 : x.toNat < 3
  · simp only [if_pos hx3, List.map_cons, aV] at h9
    have hD : aD X (6 + x.toNat) = X.2.2.2.1 (6 + x.toNat) := if_pos (by show 6 + x.toNat < 10; omega)
    rw [hD] at h9
    exact va_gets F.1 F.2.1 (hI.2.2.2.1.2.2.1 x.toNat hx3) hI.2.2.1 F.2.2.2.1 hw (fun _ q => q) hd h9
  · simp only [if_neg hx3, List.map_cons, aV] at h9
    have hall : ∀ q ∈ STk, q.2.2 ≤ 3 := by decide +kernel
    have hx4 : x.toNat = 3 := by have := hall _ h3; simp only at this; omega
    simp only [wST] at hw
    rw [hx4] at hw
    exact va_gets F.1 F.2.1 hI.2.2.2.1.2.2.2.1 hI.2.2.1 F.2.2.2.1 hw (fun _ q => q) hd h9
theorem vp_of {j : Int32} {nn : Nat} (h1 : ¬ j < 0) (h2 : j.toNatClampNeg < nn) : vp_in j nn := fun q => q.elim h1 (fun q => absurd h2 (Nat.not_lt.mpr q))
theorem so_arraylength (F : fC p s m args meth c X k) (hd : decode (mCode k) pc = .ok (.arraylength, n)) (hn : okE k pc n .arraylength x ps = true) (hs : stp cf k pc (.arraylength, x, ps) L st h = some (.inl a)) (kk : gW p l e R s m args below meth c Q X k n0 sl0 a) : gW p l e R s m args below meth c Q X k n0 sl0 (pc, L, st, h) := by
  intro H locs ls hI hL
  have h1 := okN1 hn
  subst h1
  simp only [stp] at hs
  split at hs
  · rename_i b r
    obtain ⟨b, rfl⟩ : ∃ z : Nat, z = b := ⟨b, rfl⟩
    split at hs
    · rename_i t nn hsh
      split at hs
      · rename_i ht
        simp only [Option.some.injEq, Sum.inl.injEq] at hs
        subst hs
        have h9 := kk H locs ls hI hL
        by_cases hb : nX ≤ b
        · have ht1 := hI.1.2.2.2 b hb t nn hsh
          by_cases ht0 : t = 0
          · subst ht0
            exact va_alen F.1 F.2.1 F.2.2.2.2.2.1 hI.2.1 (b - nX) 0 (ar_at hI hb hsh) rfl rfl hd h9
          · rcases (by omega : t = 2 ∨ t = 3) with rfl | rfl
            · exact va_alen F.1 F.2.1 F.2.2.2.2.2.1 hI.2.1 (b - nX) 1 (rr_at hI hb hsh ht0 (by decide)) rfl rfl hd h9
            · exact va_alen F.1 F.2.1 F.2.2.2.2.2.1 hI.2.1 (b - nX) 2 (rr_at hI hb hsh ht0 (by decide)) rfl rfl hd h9
        · have hD : aD X b = X.2.2.2.1 b := if_pos (by omega)
          by_cases hb3 : b < 3
          · have e1 := (hI.2.2.2.1.1 b hb3).1
            rw [e1] at hsh
            cases hsh
          · obtain ⟨t', n', e1, e2⟩ := hI.2.2.2.1.2.1 b (by have hz : nX = 10 := rfl; omega) (by have hz : nX = 10 := rfl; omega)
            rw [hsh] at e1
            cases e1
            simp only [List.map_cons, aV, hD] at h9 ⊢
            rcases e2 with ⟨-, e2⟩ | ⟨-, e2⟩
            · exact va_tlen F.1 F.2.1 e2 hI.2.2.1 rfl hd h9
            · exact va_tlen F.1 F.2.1 e2 hI.2.2.1 rfl hd h9
      · cases hs
    · cases hs
  · cases hs
theorem so_iaload (F : fC p s m args meth c X k) (hd : decode (mCode k) pc = .ok (.iaload, n)) (hn : okE k pc n .iaload x ps = true) (hs : stp cf k pc (.iaload, x, ps) L st h = some (.inl a)) (kk : gW p l e R s m args below meth c Q X k n0 sl0 a) : gW p l e R s m args below meth c Q X k n0 sl0 (pc, L, st, h) := by
  intro H locs ls hI hL
  have h1 := okN1 hn
  subst h1
  simp only [stp] at hs
  split at hs
  · rename_i j b r
    obtain ⟨b, rfl⟩ : ∃ z : Nat, z = b := ⟨b, rfl⟩
    split at hs
    · rename_i nn hsh
      split at hs
      · rename_i hc
        simp only [Option.some.injEq, Sum.inl.injEq] at hs
        subst hs
        have h9 := kk H locs ls hI hL
        by_cases hb : nX ≤ b
        · exact va_iald F.1 F.2.1 F.2.2.2.2.2.1 hI.2.1 (b - nX) 0 (ar_at hI hb hsh) rfl (vp_of hc.1 hc.2) hd h9
        · have hD : aD X b = X.2.2.2.1 b := if_pos (by omega)
          by_cases hb3 : b < 3
          · have e1 := (hI.2.2.2.1.1 b hb3).1
            rw [e1] at hsh
            cases hsh
          · obtain ⟨t', n', e1, e2⟩ := hI.2.2.2.1.2.1 b (by have hz : nX = 10 := rfl; omega) (by have hz : nX = 10 := rfl; omega)
            rw [hsh] at e1
            cases e1
            simp only [List.map_cons, aV, hD] at h9 ⊢
            rcases e2 with ⟨e0, e2⟩ | ⟨-, e2⟩
            · cases e0
            · exact va_ti F.1 F.2.1 e2 hI.2.2.1 (vp_of hc.1 hc.2) rfl hd h9
      · cases hs
    · cases hs
  · cases hs
theorem so_baload (F : fC p s m args meth c X k) (hd : decode (mCode k) pc = .ok (.baload, n)) (hn : okE k pc n .baload x ps = true) (hs : stp cf k pc (.baload, x, ps) L st h = some (.inl a)) (kk : gW p l e R s m args below meth c Q X k n0 sl0 a) : gW p l e R s m args below meth c Q X k n0 sl0 (pc, L, st, h) := by
  intro H locs ls hI hL
  have h1 := okN1 hn
  subst h1
  simp only [stp] at hs
  split at hs
  · rename_i j b r
    obtain ⟨b, rfl⟩ : ∃ z : Nat, z = b := ⟨b, rfl⟩
    split at hs
    · rename_i nn hsh
      split at hs
      · rename_i hc
        simp only [Option.some.injEq, Sum.inl.injEq] at hs
        subst hs
        have h9 := kk H locs ls hI hL
        by_cases hb : nX ≤ b
        · exact absurd rfl (hI.1.2.2.2 b hb 1 nn hsh)
        · have hD : aD X b = X.2.2.2.1 b := if_pos (by omega)
          by_cases hb3 : b < 3
          · have e1 := (hI.2.2.2.1.1 b hb3).1
            rw [e1] at hsh
            cases hsh
          · obtain ⟨t', n', e1, e2⟩ := hI.2.2.2.1.2.1 b (by have hz : nX = 10 := rfl; omega) (by have hz : nX = 10 := rfl; omega)
            rw [hsh] at e1
            cases e1
            simp only [List.map_cons, aV, hD] at h9 ⊢
            rcases e2 with ⟨-, e2⟩ | ⟨e0, e2⟩
            · exact va_tb F.1 F.2.1 e2 hI.2.2.1 (vp_of hc.1 hc.2) rfl hd h9
            · cases e0
      · cases hs
    · cases hs
  · cases hs
theorem so_aaload (F : fC p s m args meth c X k) (hd : decode (mCode k) pc = .ok (.aaload, n)) (hn : okE k pc n .aaload x ps = true) (hs : stp cf k pc (.aaload, x, ps) L st h = some (.inl a)) (kk : gW p l e R s m args below meth c Q X k n0 sl0 a) : gW p l e R s m args below meth c Q X k n0 sl0 (pc, L, st, h) := by
  intro H locs ls hI hL
  have h1 := okN1 hn
  subst h1
  simp only [stp] at hs
  split at hs
  · rename_i j b r
    split at hs
    · rename_i t nn hsh
      split at hs
      · rename_i hc
        obtain ⟨ht, hb, hj1, hj2⟩ := hc
        simp only [Option.some.injEq, Sum.inl.injEq] at hs
        subst hs
        have h9 := kk H locs ls hI hL
        simp only [List.map_cons, aV_rf] at h9
        rcases ht with rfl | rfl
        · exact va_aldq F.1 F.2.1 F.2.2.2.2.2.1 hI.2.1 (b - nX) 1 (rr_at hI hb hsh (by decide) (by decide)) rfl (vp_of hj1 hj2) hd h9
        · exact va_aldq F.1 F.2.1 F.2.2.2.2.2.1 hI.2.1 (b - nX) 2 (rr_at hI hb hsh (by decide) (by decide)) rfl (vp_of hj1 hj2) hd h9
      · cases hs
    · cases hs
  · cases hs
theorem so_iastore (F : fC p s m args meth c X k) (hd : decode (mCode k) pc = .ok (.iastore, n)) (hn : okE k pc n .iastore x ps = true) (hs : stp cf k pc (.iastore, x, ps) L st h = some (.inl a)) (kk : gW p l e R s m args below meth c Q X k n0 sl0 a) : gW p l e R s m args below meth c Q X k n0 sl0 (pc, L, st, h) := by
  intro H locs ls hI hL
  have h1 := okN1 hn
  subst h1
  simp only [stp] at hs
  split at hs
  · rename_i v j b r
    split at hs
    · rename_i nn hsh
      split at hs
      · rename_i hc
        obtain ⟨hb, hj1, hj2⟩ := hc
        simp only [Option.some.injEq, Sum.inl.injEq] at hs
        subst hs
        refine va_iast F.1 F.2.1 F.2.2.2.2.2.1 hI.2.1 aW_D hI.2.2.1 (b - nX) 0 (ar_at hI hb hsh) rfl (vp_of hj1 hj2) hd (fun H1 locs1 hP1 hD1 hS1 => ?_)
        have hset : (aW X h).set (b - nX) (aD X b, .inl (X.2.2.1 0, nn, .inl (upd (h.2.2.2 b) j.toNatClampNeg v))) = aW X (h.1, h.2.1, h.2.2.1, uI h.2.2.2 b j.toNatClampNeg v) := by
          rw [← aW_set (h := h) (h' := (h.1, h.2.1, h.2.2.1, uI h.2.2.2 b j.toNatClampNeg v)) (id := b) rfl hb (fun i hi => aE_congr rfl rfl (up_n hi))]
          congr 2
          simp only [aE, hsh, uI, up_s, if_true]
        rw [hset] at hP1
        exact kk H1 locs1 ls (hI.upd rfl rfl (fun i hi => ⟨rfl, rfl, up_n (by omega)⟩) hP1 hS1) hL
      · cases hs
    · cases hs
  · cases hs
theorem so_aastore (F : fC p s m args meth c X k) (hd : decode (mCode k) pc = .ok (.aastore, n)) (hn : okE k pc n .aastore x ps = true) (hs : stp cf k pc (.aastore, x, ps) L st h = some (.inl a)) (kk : gW p l e R s m args below meth c Q X k n0 sl0 a) : gW p l e R s m args below meth c Q X k n0 sl0 (pc, L, st, h) := by
  intro H locs ls hI hL
  have h1 := okN1 hn
  subst h1
  simp only [stp] at hs
  split at hs
  · rename_i v j b r
    split at hs
    · rename_i t nn hsh
      split at hs
      · rename_i hc
        obtain ⟨ht, hb, hv, hj1, hj2⟩ := hc
        simp only [Option.some.injEq, Sum.inl.injEq] at hs
        subst hs
        have ht0 : t ≠ 0 := by rcases ht with ⟨q, -⟩ | ⟨q, -⟩ <;> omega
        have hset : ∀ f : Nat → Option Nat, (f = va_up (fun i => (h.2.2.1 b i).map (aD X)) j.toNatClampNeg (some (aD X v))) → (aW X h).set (b - nX) (aD X b, .inl (X.2.2.1 t, nn, .inr (.inr (.inr (.inr f))))) = aW X (h.1, h.2.1, uR h.2.2.1 b j.toNatClampNeg (some v), h.2.2.2) := by
          intro f hf
          rw [← aW_set (h := h) (h' := (h.1, h.2.1, uR h.2.2.1 b j.toNatClampNeg (some v), h.2.2.2)) (id := b) rfl hb (fun i hi => aE_congr rfl (up_n hi) rfl)]
          congr 2
          simp only [aE, hsh, uR, up_s, if_neg ht0]
          rw [hf]
          congr 7
          funext i
          by_cases hi : i = j.toNatClampNeg
          · subst hi
            simp only [up_s]
            rfl
          · simp only [up_n hi]
        rcases ht with ⟨rfl, hvs⟩ | ⟨rfl, hvs⟩
        · obtain ⟨g1, g2, g3⟩ := ob_at hI hv hvs
          refine va_astq (r := (cNm 5, cTt 5, cNf 5)) F.1 F.2.1 F.2.2.2.2.2.1 hI.2.1 aW_D hI.2.2.1 (b - nX) 1 (v - nX) 5 (rr_at hI hb hsh ht0 (by decide)) rfl g3 (cl_at (by decide)) (vp_of hj1 hj2) hd (fun H1 locs1 hP1 hD1 hS1 => ?_)
          rw [hset _ rfl] at hP1
          exact kk H1 locs1 ls (hI.upd rfl rfl (fun i hi => ⟨rfl, up_n (by omega), rfl⟩) hP1 hS1) hL
        · obtain ⟨g1, g2, g3⟩ := ob_at hI hv hvs
          refine va_astq (r := (cNm 6, cTt 6, cNf 6)) F.1 F.2.1 F.2.2.2.2.2.1 hI.2.1 aW_D hI.2.2.1 (b - nX) 2 (v - nX) 6 (rr_at hI hb hsh ht0 (by decide)) rfl g3 (cl_at (by decide)) (vp_of hj1 hj2) hd (fun H1 locs1 hP1 hD1 hS1 => ?_)
          rw [hset _ rfl] at hP1
          exact kk H1 locs1 ls (hI.upd rfl rfl (fun i hi => ⟨rfl, up_n (by omega), rfl⟩) hP1 hS1) hL
      · cases hs
    · cases hs
  · cases hs
end STQ
