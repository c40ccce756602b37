/-! ONE NUMBER OF A SCENE CHANGED, on both sides -/
section UPS
variable {d : Nat} {E : pEv} {r r' r1 r2 : Nat → Nat → Int32} {t : Th} {X : Tx} {Q : Option Value → pH → Prop}
theorem uI_o {a k b j : Nat} {v : Int32} (h : b ≠ a ∨ j ≠ k) : uI r a k v b j = r b j := by rw [uI_at, if_neg (by omega)]
theorem uI_e {a k : Nat} {v : Int32} : uI r a k v a k = v := by rw [uI_at, if_pos ⟨rfl, rfl⟩]
theorem upT_n {f s v : Nat} (hf : f ≤ 9) : (t.up f s v).n = t.n := by
  show (if 10 = f ∧ 0 = s then v else t 10 0) = t 10 0
  rw [if_neg (by omega)]
theorem upT_b {f s v : Nat} (hf : f ≤ 9) : (t.up f s v).b = t.b := by
  show (if 11 = f ∧ 0 = s then v else t 11 0) = t 11 0
  rw [if_neg (by omega)]
theorem upT_c {f s v c i : Nat} {r : Nat → Nat → Int32} (h : r (13 + i) (c + 1) = nI (t c i)) : uI r (13 + s) (f + 1) (nI v) (13 + i) (c + 1) = nI ((t.up f s v) c i) := by
  show _ = nI (if c = f ∧ i = s then v else t c i)
  by_cases q : c = f ∧ i = s
  · rw [if_pos q, uI_at, if_pos (by omega)]
  · rw [if_neg q, uI_at, if_neg (by omega)]; exact h
theorem upT_m {f s v c i : Nat} {r : Nat → Nat → Int32} (hf : f ≤ 8) (hc : c ≤ 8) (h : r 102 (10 + 10 * i + c) = nI (t c i)) : uI r 102 (10 + 10 * s + f) (nI v) 102 (10 + 10 * i + c) = nI ((t.up f s v) c i) := by
  show _ = nI (if c = f ∧ i = s then v else t c i)
  by_cases q : c = f ∧ i = s
  · rw [if_pos q, uI_at, if_pos (by omega)]
  · rw [if_neg q, uI_at, if_neg (by omega)]; exact h
theorem upT_P {f s v i : Nat} (h : f ≠ 5) : (t.up f s v).P i = t.P i := by
  show (if 5 = f ∧ i = s then v else t 5 i) = t 5 i
  rw [if_neg (by omega)]
theorem upT_lt {f s v i : Nat} (h5 : f = 5 → v < 4 → r (13 + s) 7 = nI (t.F s) ∧ r (13 + s) 8 = nI (t.G s)) (hF : t.P i < 4 → r (13 + i) 7 = nI (t.F i) ∧ r (13 + i) 8 = nI (t.G i)) (q : (t.up f s v).P i < 4) : r (13 + i) 7 = nI (t.F i) ∧ r (13 + i) 8 = nI (t.G i) := by
  have q' : (if 5 = f ∧ i = s then v else t 5 i) < 4 := q
  by_cases c : 5 = f ∧ i = s
  · rw [if_pos c] at q'
    rw [c.2]
    exact h5 c.1.symm q'
  · rw [if_neg c] at q'
    exact hF q'
theorem tC_up (ok : tOK t) {f s v : Nat} (hf : f ≤ 8) (hs : s < t.n) (h5 : f = 5 → v < 4 → r (13 + s) 7 = nI (t.F s) ∧ r (13 + s) 8 = nI (t.G s)) (hC : tC t r) : tC (t.up f s v) (uI r (13 + s) (f + 1) (nI v)) := by
  have hn := ok.n
  have en := upT_n (t := t) (f := f) (s := s) (v := v) (by omega)
  have eb := upT_b (t := t) (f := f) (s := s) (v := v) (by omega)
  refine ⟨?_, ?_, ?_, ?_, ?_, ?_, ?_, ?_, ?_, ?_, ?_, ?_, ?_, ?_, ?_⟩
  · rw [uI_o (by omega), en]; exact hC.n
  · intro i hi; rw [uI_o (by omega)]; exact hC.N i hi
  · intro i hi; rw [en] at hi; exact upT_c (c := 0) (hC.K i hi)
  · intro i hi; rw [en] at hi; exact upT_c (c := 1) (hC.M i hi)
  · intro i hi; rw [en] at hi; exact upT_c (c := 2) (hC.C i hi)
  · intro i hi; rw [en] at hi; exact upT_c (c := 3) (hC.T i hi)
  · intro i hi; rw [en] at hi; exact upT_c (c := 4) (hC.A i hi)
  · intro i hi; rw [en] at hi; exact upT_c (c := 5) (hC.P i hi)
  · intro i hi q; rw [en] at hi; exact upT_c (c := 6) (upT_lt h5 (fun w => ⟨hC.F i hi w, hC.G i hi w⟩) q).1
  · intro i hi q; rw [en] at hi; exact upT_c (c := 7) (upT_lt h5 (fun w => ⟨hC.F i hi w, hC.G i hi w⟩) q).2
  · intro i hi; rw [en] at hi; exact upT_c (c := 8) (hC.W i hi)
  · rw [uI_o (by omega), en]; exact hC.o1
  · intro i hi; rw [en] at hi; rw [uI_o (by omega)]
    have : (t.up f s v).o i = t.o i := by
      show (if 9 = f ∧ i = s then v else t 9 i) = t 9 i
      rw [if_neg (by omega)]
    rw [this]; exact hC.o i hi
  · rw [uI_o (by omega), eb]; exact hC.b
  · rw [uI_o (by omega)]; exact hC.sp
theorem upT_lm {f s v i : Nat} (h5 : f = 5 → v < 4 → r 102 (10 + 10 * s + 6) = nI (t.F s) ∧ r 102 (10 + 10 * s + 7) = nI (t.G s)) (hF : t.P i < 4 → r 102 (10 + 10 * i + 6) = nI (t.F i) ∧ r 102 (10 + 10 * i + 7) = nI (t.G i)) (q : (t.up f s v).P i < 4) : r 102 (10 + 10 * i + 6) = nI (t.F i) ∧ r 102 (10 + 10 * i + 7) = nI (t.G i) := by
  have q' : (if 5 = f ∧ i = s then v else t 5 i) < 4 := q
  by_cases c : 5 = f ∧ i = s
  · rw [if_pos c] at q'
    rw [c.2]
    exact h5 c.1.symm q'
  · rw [if_neg c] at q'
    exact hF q'
theorem tM_up (ok : tOK t) {f s v : Nat} (hf : f ≤ 8) (hs : s < t.n) (h5 : f = 5 → v < 4 → r 102 (10 + 10 * s + 6) = nI (t.F s) ∧ r 102 (10 + 10 * s + 7) = nI (t.G s)) (hM : tM t r) : tM (t.up f s v) (uI r 102 (10 + 10 * s + f) (nI v)) := by
  have hn := ok.n
  have en := upT_n (t := t) (f := f) (s := s) (v := v) (by omega)
  have eb := upT_b (t := t) (f := f) (s := s) (v := v) (by omega)
  refine ⟨?_, ?_, ?_, ?_, ?_, ?_, ?_, ?_, ?_, ?_, ?_, ?_⟩
  · rw [uI_o (by omega), en]; exact hM.n
  · intro i hi; rw [en] at hi; exact upT_m (c := 0) hf (by omega) (hM.K i hi)
  · intro i hi; rw [en] at hi; exact upT_m (c := 1) hf (by omega) (hM.M i hi)
  · intro i hi; rw [en] at hi; exact upT_m (c := 2) hf (by omega) (hM.C i hi)
  · intro i hi; rw [en] at hi; exact upT_m (c := 3) hf (by omega) (hM.T i hi)
  · intro i hi; rw [en] at hi; exact upT_m (c := 4) hf (by omega) (hM.A i hi)
  · intro i hi; rw [en] at hi; exact upT_m (c := 5) hf (by omega) (hM.P i hi)
  · intro i hi q; rw [en] at hi; exact upT_m (c := 6) hf (by omega) (upT_lm h5 (fun w => ⟨hM.F i hi w, hM.G i hi w⟩) q).1
  · intro i hi q; rw [en] at hi; exact upT_m (c := 7) hf (by omega) (upT_lm h5 (fun w => ⟨hM.F i hi w, hM.G i hi w⟩) q).2
  · intro i hi; rw [en] at hi; exact upT_m (c := 8) hf (by omega) (hM.W i hi)
  · intro i hi; rw [en] at hi; rw [uI_o (by omega)]
    have : (t.up f s v).o i = t.o i := by
      show (if 9 = f ∧ i = s then v else t 9 i) = t 9 i
      rw [if_neg (by omega)]
    rw [this]; exact hM.o i hi
  · rw [uI_o (by omega), eb]; exact hM.b
theorem upT_at {f s v c i : Nat} {p : Nat → Prop} (h1 : c = f → i = s → p v) (h2 : p (t c i)) : p ((t.up f s v) c i) := by
  show p (if c = f ∧ i = s then v else t c i)
  by_cases q : c = f ∧ i = s
  · rw [if_pos q]; exact h1 q.1 q.2
  · rw [if_neg q]; exact h2
theorem tOK_up (ok : tOK t) {f s v : Nat} (hf : f ≤ 8) (b0 : f = 0 → v < 7) (b1 : f = 1 → v < 10) (b2 : f = 2 → v < 2 ^ s) (b3 : f = 3 → 1 ≤ v ∧ v ≤ 30) (b4 : f = 4 → v < 64) (b5 : f = 5 → v ≤ 4 ∧ (v < 4 → t.F s ≤ 5 ∧ t.G s ≤ 5)) (b6 : f = 6 ∨ f = 7 → v ≤ 5) (b8 : f = 8 → v ≤ 1) : tOK (t.up f s v) := by
  have en := upT_n (t := t) (f := f) (s := s) (v := v) (by omega)
  have eb := upT_b (t := t) (f := f) (s := s) (v := v) (by omega)
  have eo : ∀ i, (t.up f s v).o i = t.o i := fun i => by
    show (if 9 = f ∧ i = s then v else t 9 i) = t 9 i
    rw [if_neg (by omega)]
  have hg : ∀ i, i < t.n → (t.up f s v).P i < 4 → t.F i ≤ 5 ∧ t.G i ≤ 5 := fun i hi q => by
    have q' : (if 5 = f ∧ i = s then v else t 5 i) < 4 := q
    by_cases c : 5 = f ∧ i = s
    · rw [if_pos c] at q'
      rw [c.2]
      exact (b5 c.1.symm).2 q'
    · rw [if_neg c] at q'
      exact ⟨ok.F i hi q', ok.G i hi q'⟩
  unfold tOK
  rw [en, eb]
  refine ⟨ok.n, ?_, ?_, ?_, ?_, ?_, ?_, ?_, ?_, ?_, ?_, ?_, ok.b⟩
  · intro i hi; exact upT_at (c := 0) (p := fun z => z < 7) (fun q _ => b0 q.symm) (ok.K i hi)
  · intro i hi; exact upT_at (c := 1) (p := fun z => z < 10) (fun q _ => b1 q.symm) (ok.M i hi)
  · intro i hi; exact upT_at (c := 2) (p := fun z => z < 2 ^ i) (fun q w => by rw [w]; exact b2 q.symm) (ok.C i hi)
  · intro i hi; exact upT_at (c := 3) (p := fun z => 1 ≤ z ∧ z ≤ 30) (fun q _ => b3 q.symm) (ok.T i hi)
  · intro i hi; exact upT_at (c := 4) (p := fun z => z < 64) (fun q _ => b4 q.symm) (ok.A i hi)
  · intro i hi; exact upT_at (c := 5) (p := fun z => z ≤ 4) (fun q _ => (b5 q.symm).1) (ok.P i hi)
  · intro i hi q; exact upT_at (c := 6) (p := fun z => z ≤ 5) (fun q _ => b6 (Or.inl q.symm)) (hg i hi q).1
  · intro i hi q; exact upT_at (c := 7) (p := fun z => z ≤ 5) (fun q _ => b6 (Or.inr q.symm)) (hg i hi q).2
  · intro i hi; exact upT_at (c := 8) (p := fun z => z ≤ 1) (fun q _ => b8 q.symm) (ok.W i hi)
  · intro i hi; rw [eo]; exact ok.o i hi
  · intro i j hi hj q; rw [eo, eo] at q; exact ok.oi i j hi hj q
/-- both sides' cells of the play, scratch -/
def PL : Nat → Nat → Prop := fun a k => (11 ≤ a ∧ a ≤ 37) ∨ a = 102 ∨ SC a k ∨ SM a k
theorem Inv_pl (h : Inv r) (hp : PInv r' r') (s : sE PL r r') : Inv r' := Inv_play h hp (fun a k q => s a k (by unfold rsR at q; unfold PL SC SM; omega))
theorem PI_m (ok : tOK t) (xo : xOK X) (h : PI t X r r) (e : ∀ a k, rPC a k → r' a k = r a k) (e2 : ∀ k, k < 262 → r' 102 k = r 102 k) : PI t X r' r' := PI_f ok xo h e e2
theorem tM_eC {k : Nat} (hM : tM t r) : tM t (eC r k) := hM.fr (funext fun j => uI_o (by omega))
theorem st_e (hI : Inv r) {mc mm k : Nat} {ac am : List Value} (hk : 1 ≤ k ∧ k ≤ 5) (hc : ∀ Q, wX (d + 70) mc ac (mkH E r) Q = Q (some (.int (er k))) (mkH E (eC r k))) (hm : ∀ Q, wX (d + 70) mm am (mkH E (eC r k)) Q = Q (some (.int (er k))) (mkH E (eM (eC r k) k))) : stI E d r mc ac mm am := ⟨er k, eC r k, eM (eC r k) k, hc, hm, Inv_e hI hk⟩
theorem st_seed (s_E : oE E) (hI : Inv r) {x : Int32} : stI E d r 122 [.ref 10, .int x] 224 [.ref 101, .int x] := by
  obtain ⟨t, X, ok, xo, hC, hX, hM, hXM, ⟨y1, y2, y3⟩, ⟨n, b, y4⟩, w, y5⟩ := hI.1
  refine ⟨r 11 11, uI r 11 11 x, uI (uI r 11 11 x) 102 1 x, fun Q => x_X9_seed (d := d + 69) s_E, fun Q => ?_, Inv_pl hI ⟨t, X, ok, xo, tC_f hC ok.n (fun a k q => ?_), xC_f hX (fun a k q => ?_), tM_f hM ok.n (fun k q => ?_), xM_f xo hXM (fun k q => ?_), ⟨?_, ?_, ?_⟩, ⟨n, b, tp_f y4 (fun a k q => ?_) (fun k q => ?_)⟩, w, wt_f y5 (fun a k q => ?_) (fun k q => ?_)⟩ (sE_tr (sE_u (by unfold PL; omega)) (sE_u (by unfold PL; omega)))⟩
  · refine (x_X10_seed (d := d + 69) s_E).trans ?_
    unfold f_X10_seed g_X10_seed
    rw [uI_o (by omega), y3]
  · unfold rTC at q; rw [uI_o (by omega), uI_o (by omega)]
  · unfold rXC at q; rw [uI_o (by omega), uI_o (by omega)]
  · unfold rTM at q; rw [uI_o (by omega), uI_o (by omega)]
  · unfold rXM at q; rw [uI_o (by omega), uI_o (by omega)]
  · rw [uI_o (by omega), uI_o (by omega), uI_o (by omega), uI_o (by omega)]; exact y1
  · rw [uI_o (by omega), uI_o (by omega), uI_o (by omega), uI_o (by omega)]; exact y2
  · rw [uI_o (by omega), uI_e, uI_e]
  · rw [uI_o (by omega), uI_o (by omega)]
  · rw [uI_o (by omega), uI_o (by omega)]
  · rw [uI_o (by omega), uI_o (by omega)]
  · rw [uI_o (by omega), uI_o (by omega)]
end UPS
