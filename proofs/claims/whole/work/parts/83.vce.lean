section VCE
variable {d : Nat} {E : pEv} {r r' r1 r2 : Nat → Nat → Int32} {t t' : Th} {X : Tx} {Q : Option Value → pH → Prop}
theorem a4_t : ∀ a, a < 4 → (nI a = 0 ↔ a = 0) ∧ (nI a = 1 ↔ a = 1) ∧ (nI a = 2 ↔ a = 2) := by decide +kernel
theorem st_voice (s_E : oE E) (hI : Inv r) {x y z : Int32} : stI E d r 123 [.ref 10, .int x, .int y, .int z] 231 [.ref 101, .int x, .int y, .int z] := by
  obtain ⟨⟨t, X, ok, xo, hP⟩, i2, i3, i4, i5, i6⟩ := id hI
  obtain ⟨hC, hX, hM, hXM, hy⟩ := id hP
  have hn := ok.n
  have gM : f_X10_in y.toInt64 0 3 = f_X9_within y 0 3 := in_l (a := 0) (b := 3)
  have pC : ∀ Q, wX (d + 70) 123 [.ref 10, .int x, .int y, .int z] (mkH E r) Q = wG (d + 69) 123 (5, [.ref 10, .int x, .int y, .int z], [.int (gS t x)], mkH E r) Q := fun Q => by
    refine (en_X9_voice (d := d + 69) s_E).trans ?_
    refine (x_X9_stands (d := d + 67) s_E).trans ?_
    rw [gS_C hC]
    rfl
  have pM : ∀ ra, tM t ra → ∀ Q, wX (d + 70) 231 [.ref 101, .int x, .int y, .int z] (mkH E ra) Q = wG (d + 69) 231 (5, [.ref 101, .int x, .int y, .int z, .retAddr 0], [.int (gS t x)], mkH E ra) Q := fun ra hra Q => by
    refine (en_X10_voice (d := d + 69) s_E).trans ?_
    refine (x_X10_isScene (d := d + 67) s_E).trans ?_
    rw [gS_M hra]
    rfl
  have eC1 : ∀ Q, wX (d + 69) 136 [.ref 10, .int (-1000000001)] (mkH E r) (fun v h' => wG (d + 69) 123 (23, [.ref 10, .int x, .int y, .int z], pv v [], h') Q) = Q (some (.int (er 1))) (mkH E (eC r 1)) := fun Q => by
    rw [er1]
    refine (x_wr (d := d + 67) s_E (by decide)).trans ?_
    exact sg_X9_voice_23 (d := d + 69) s_E
  have eM1 : ∀ ra Q, wX (d + 69) 153 [.ref 101, .int 1] (mkH E ra) (fun v h' => wG (d + 69) 231 (25, [.ref 101, .int x, .int y, .int z, .retAddr 0], pv v [], h') Q) = Q (some (.int (er 1))) (mkH E (eM ra 1)) := fun ra Q => by
    refine (x_fin (d := d + 68) (k := 1) s_E (by decide)).trans ?_
    exact sg_X10_voice_25 (d := d + 69) s_E
  rcases gS_s ok x with h | ⟨s, hs, rfl, h⟩
  · refine st_e hI (k := 1) (by decide) (fun Q => ?_) (fun Q => ?_)
    · rw [pC, h]
      refine (sg_X9_voice_5 (d := d + 69) s_E).trans ?_
      rw [if_pos rfl]; exact eC1 Q
    · rw [pM _ (tM_eC hM), h]
      refine (sg_X10_voice_5 (d := d + 69) s_E).trans ?_
      rw [if_pos rfl]; exact eM1 _ Q
  · rcases wi_v (x := y) (a := 0) (m := 3) (by decide) (by decide) with h2 | ⟨a, _, ha, rfl, h2⟩
    · have h2 : f_X9_within y 0 3 = 0 := h2
      refine st_e hI (k := 1) (by decide) (fun Q => ?_) (fun Q => ?_)
      · rw [pC, h]
        refine (sg_X9_voice_5 (d := d + 69) s_E).trans ?_
        rw [if_neg (by decide)]
        refine (x_X9_within (d := d + 68) s_E).trans ?_
        rw [h2]
        refine (sg_X9_voice_14 (d := d + 69) s_E).trans ?_
        rw [if_pos rfl]; exact eC1 Q
      · rw [pM _ (tM_eC hM), h]
        refine (sg_X10_voice_5 (d := d + 69) s_E).trans ?_
        rw [if_neg (by decide)]
        refine (x_X10_in (d := d + 68) s_E).trans ?_
        rw [gM, h2]
        refine (sg_X10_voice_17 (d := d + 69) s_E).trans ?_
        rw [if_pos rfl]; exact eM1 _ Q
    · have h2 : f_X9_within (nI a) 0 3 = 1 := h2
      have hs7 : s < 7 := by omega
      have hK := ok.K s hs
      have hl : (vo s (t.M s) (t.K s) a (t.K s) z).2.length ≤ 21 := vo_l
      have sp := sp_all (E := E) (s := s) (m := t.M s) (o := t.K s) (x := z) s_E hs7 hK (a := a) (k := t.K s) (by omega) hK
      generalize hv : vo s (t.M s) (t.K s) a (t.K s) z = V at hl sp
      let ra : Nat → Nat → Int32 := uI r 85 1 0
      let rb : Nat → Nat → Int32 := tra ra 0 V.2
      have rb_o : ∀ a k, (a ≠ 85 ∨ k ≠ 1) → a ≠ 86 → rb a k = r a k := fun a k h1 h2 => (tra_s V.2 ra 0 a k (by unfold trP; omega)).trans (uI_o (by omega))
      let rc : Nat → Nat → Int32 := uI (uI rb 101 19 0) 101 20 (nI s)
      let rd : Nat → Nat → Int32 := trm rc 0 V.2
      have rd_o : ∀ a k, (a ≠ 101 ∨ (k ≠ 19 ∧ k ≠ 20)) → a ≠ 111 → rd a k = rb a k := fun a k h1 h2 => (trm_s V.2 rc 0 a k (by unfold tmP; omega)).trans ((uI_o (by omega)).trans (uI_o (by omega)))
      have hMb : tM t rb := hM.fr (funext fun k => rb_o 102 k (by omega) (by omega))
      have o2 : ∀ a k, (a ≠ 85 ∨ k ≠ 1) → a ≠ 86 → (a ≠ 101 ∨ (k ≠ 19 ∧ k ≠ 20)) → a ≠ 111 → rd a k = r a k := fun a k h1 h2 h3 h4 => (rd_o a k h3 h4).trans (rb_o a k h1 h2)
      have rc19 : rc 101 19 = nI 0 := (uI_o (by omega)).trans uI_e
      have mc : mcs s (t.M s) (t.K s) rc := ⟨uI_e, (uI_o (by omega)).trans ((uI_o (by omega)).trans (hMb.K s hs)), (uI_o (by omega)).trans ((uI_o (by omega)).trans (hMb.M s hs))⟩
      have sc : scV s (t.M s) (t.K s) ra := ⟨(uI_o (by omega)).trans (hC.N s hs7), (uI_o (by omega)).trans (hC.K s hs), (uI_o (by omega)).trans (hC.M s hs)⟩
      refine ⟨V.1, rb, rd, fun Q => ?_, fun Q => ?_, PInv_f hI.1 (fun a k q => o2 a k (by unfold rPC at q; omega) (by unfold rPC at q; omega) (by unfold rPC at q; omega) (by unfold rPC at q; omega)) (fun k q => o2 102 k (by omega) (by omega) (by omega) (by omega)), kR_f i2 (fun a k q => o2 a k (by omega) (by omega) (by omega) (by omega)), eR_f i3 (fun a k q => o2 a k (by omega) (by omega) (by omega) (by omega)), ⟨V.2.length, by omega, ?_, ?_, fun i hi => ?_⟩, hR_f i5 (fun a k q => o2 a k (by omega) (by omega) (by omega) (by omega)), cz_f i6 (fun a q => o2 a 1 (by omega) (by omega) (by omega) (by omega))⟩
      · rw [pC, h]
        refine (sg_X9_voice_5 (d := d + 69) s_E).trans ?_
        rw [if_neg (by decide)]
        refine (x_X9_within (d := d + 68) s_E).trans ?_
        rw [h2]
        refine (sg_X9_voice_14 (d := d + 69) s_E).trans ?_
        rw [if_neg (by decide)]
        refine (x_X2_at (d := d + 68) s_E oP11).trans ?_
        rw [sc_at hs7]
        refine (sg_X9_voice_36 (d := d + 69) s_E (oS11 hs7)).trans ?_
        refine (en_X7_begin (d := d + 68) s_E (oS11 hs7)).trans ?_
        refine (x_X4_clear (d := d + 67) (c_h0 := 40) s_E (oR rfl)).trans ?_
        refine (sg_X7_begin_7 (d := d + 68) s_E (oS11 hs7)).trans ?_
        show wX (d + 68) 89 [.ref 84, .ref (13 + s), .int (ra (13 + s) 1), .int (nI a), .int z, .int 0] (mkH E ra) _ = _
        rw [sc.2.1]
        refine (sp (d + 49) ra 0 0 (by omega) (by omega) sc uI_e (by omega) _).trans ?_
        refine (sg_X7_begin_19 (d := d + 68) s_E (oS11 hs7)).trans ?_
        exact sg_X9_voice_41 (d := d + 69) s_E
      · rw [pM _ hMb, h]
        refine (sg_X10_voice_5 (d := d + 69) s_E).trans ?_
        rw [if_neg (by decide)]
        refine (x_X10_in (d := d + 68) s_E).trans ?_
        rw [gM, h2]
        refine (sg_X10_voice_17 (d := d + 69) s_E).trans ?_
        rw [if_neg (by decide)]
        show wX (d + 69) 226 [.ref 101] (mkH E rc) _ = _
        refine (x_X10_own (d := d + 67) s_E (by rw [mc.1]; exact itc (f := 0) hs7 (by decide))).trans ?_
        have eo : f_X10_own rc = nI (t.K s) := by
          unfold f_X10_own
          rw [mc.1]
          exact (its_n (f := 0) hs7 (by decide)).trans mc.2.1
        rw [eo]
        refine (sg_X10_voice_40 (d := d + 69) s_E).trans ?_
        obtain ⟨a0, a1, a2⟩ := a4_t a (by omega)
        unfold vo at hv
        by_cases q0 : a = 0
        · rw [if_pos q0] at hv
          rw [if_pos (a0.mpr q0)]
          have vm := vm_O (E := E) (s := s) (m := t.M s) (o := t.K s) (x := z) s_E (k := t.K s) hK
          rw [hv] at vm
          refine (vm (d + 65) rc 0 mc rc19 (by omega) _).trans ?_
          exact sg_X10_voice_53 (d := d + 69) s_E
        · rw [if_neg q0] at hv
          rw [if_neg (fun w => q0 (a0.mp w))]
          by_cases q1 : a = 1
          · rw [if_pos q1] at hv
            rw [if_pos (a1.mpr q1)]
            have vm := vm_P (E := E) (s := s) (m := t.M s) (o := t.K s) (x := z) s_E hs7 hK (k := t.K s) hK
            rw [hv] at vm
            refine (vm (d + 61) rc 0 mc rc19 (by omega) _).trans ?_
            exact sg_X10_voice_68 (d := d + 69) s_E
          · rw [if_neg q1] at hv
            rw [if_neg (fun w => q1 (a1.mp w))]
            by_cases q2 : a = 2
            · rw [if_pos q2] at hv
              rw [if_pos (a2.mpr q2)]
              have vm := vm_C (E := E) (s := s) (m := t.M s) (o := t.K s) (x := z) s_E hs7 (k := t.K s) hK
              rw [hv] at vm
              refine (vm (d + 65) rc 0 mc rc19 (by omega) _).trans ?_
              exact sg_X10_voice_83 (d := d + 69) s_E
            · rw [if_neg q2] at hv
              rw [if_neg (fun w => q2 (a2.mp w))]
              have vm := vm_T (E := E) (s := s) (m := t.M s) (o := t.K s) (x := z) s_E hs7 hK (k := t.K s) hK
              rw [hv] at vm
              refine (vm (d + 58) rc 0 mc rc19 (by omega) _).trans ?_
              exact sg_X10_voice_93 (d := d + 69) s_E
      · rw [rd_o _ _ (by omega) (by omega)]
        have := tra_n V.2 ra 0 uI_e
        rwa [Nat.zero_add] at this
      · have := trm_n V.2 rc 0 rc19
        rwa [Nat.zero_add] at this
      · rw [rd_o _ _ (by omega) (by omega)]
        exact tr_eq V.2 ra rc 0 (fun i hi => absurd hi (by omega)) i (by omega)
end VCE
