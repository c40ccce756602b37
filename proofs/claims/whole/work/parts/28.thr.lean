/-! bits of small numbers -/
theorem nI_or (a b : Nat) : nI (a ||| b) = nI a ||| nI b := Int32.toBitVec_inj.mp (show BitVec.ofNat 32 (a ||| b) = BitVec.ofNat 32 a ||| BitVec.ofNat 32 b from BitVec.ofNat_or)
theorem nI_and (a b : Nat) : nI (a &&& b) = nI a &&& nI b := Int32.toBitVec_inj.mp (show BitVec.ofNat 32 (a &&& b) = BitVec.ofNat 32 a &&& BitVec.ofNat 32 b from BitVec.ofNat_and)
theorem nI_xor (a b : Nat) : nI (a ^^^ b) = nI a ^^^ nI b := Int32.toBitVec_inj.mp (show BitVec.ofNat 32 (a ^^^ b) = BitVec.ofNat 32 a ^^^ BitVec.ofNat 32 b from BitVec.ofNat_xor)
theorem sh31 {i : Nat} (h : i < 32) : nI i &&& 31 = nI i := by
  have : ∀ i, i < 32 → nI i &&& 31 = nI i := by decide +kernel
  exact this i h
theorem nI_shl {a i : Nat} (h : i < 32) : nI a <<< nI i = nI (a <<< i) := by
  have e : ∀ i, i < 32 → (BitVec.ofNat 32 i).smod 32 = BitVec.ofNat 32 i := by decide +kernel
  refine Int32.toBitVec_inj.mp ?_
  show BitVec.ofNat 32 a <<< (BitVec.ofNat 32 i).smod 32 = BitVec.ofNat 32 (a <<< i)
  rw [e i h, BitVec.shiftLeft_eq']
  refine BitVec.eq_of_toNat_eq ?_
  simp [Nat.shiftLeft_eq, Nat.mul_mod, Nat.mod_eq_of_lt (show i < 4294967296 from by omega)]
def bt (a i : Nat) : Nat := a / 2 ^ i % 2
theorem nI_bt {a i : Nat} (ha : a < 128) (h : i < 7) : (nI a >>> nI i) &&& 1 = nI (bt a i) := by
  have : ∀ a, a < 128 → ∀ i, i < 7 → (nI a >>> nI i) &&& 1 = nI (bt a i) := by decide +kernel
  exact this a ha i h
/-- how many bits -/
def bc (a : Nat) : Nat := bt a 0 + bt a 1 + bt a 2 + bt a 3 + bt a 4 + bt a 5 + bt a 6
theorem nI_bc {a : Nat} (ha : a < 128) : f_J6_bitCount_0f7a4 (nI a) = nI (bc a) := by
  have : ∀ a, a < 128 → f_J6_bitCount_0f7a4 (nI a) = nI (bc a) := by decide +kernel
  exact this a ha
theorem bc_le (a : Nat) : bc a ≤ 7 := by
  unfold bc bt
  omega
theorem or7 {a b : Nat} (ha : a < 128) (hb : b < 128) : a ||| b < 128 := Nat.or_lt_two_pow (n := 7) ha hb
/-! THE THEATRE: what both sides hold -/
def Th : Type := Nat → Nat → Nat
def Th.K (t : Th) : Nat → Nat := t 0
def Th.M (t : Th) : Nat → Nat := t 1
def Th.C (t : Th) : Nat → Nat := t 2
def Th.T (t : Th) : Nat → Nat := t 3
def Th.A (t : Th) : Nat → Nat := t 4
def Th.P (t : Th) : Nat → Nat := t 5
def Th.F (t : Th) : Nat → Nat := t 6
def Th.G (t : Th) : Nat → Nat := t 7
def Th.W (t : Th) : Nat → Nat := t 8
def Th.o (t : Th) : Nat → Nat := t 9
def Th.n (t : Th) : Nat := t 10 0
def Th.b (t : Th) : Nat := t 11 0
def tOK (t : Th) : Prop := (t.n ≤ 7) ∧ (∀ i, i < t.n → t.K i < 7) ∧ (∀ i, i < t.n → t.M i < 10) ∧ (∀ i, i < t.n → t.C i < 2 ^ i) ∧ (∀ i, i < t.n → 1 ≤ t.T i ∧ t.T i ≤ 30) ∧ (∀ i, i < t.n → t.A i < 64) ∧ (∀ i, i < t.n → t.P i ≤ 4) ∧ (∀ i, i < t.n → t.P i < 4 → t.F i ≤ 5) ∧ (∀ i, i < t.n → t.P i < 4 → t.G i ≤ 5) ∧ (∀ i, i < t.n → t.W i ≤ 1) ∧ (∀ i, i < t.n → t.o i < t.n) ∧ (∀ i j, i < t.n → j < t.n → t.o i = t.o j → i = j) ∧ (t.b ≤ 1)
theorem tOK.n {t : Th} (h : tOK t) : t.n ≤ 7 := h.1
theorem tOK.K {t : Th} (h : tOK t) : ∀ i, i < t.n → t.K i < 7 := h.2.1
theorem tOK.M {t : Th} (h : tOK t) : ∀ i, i < t.n → t.M i < 10 := h.2.2.1
theorem tOK.C {t : Th} (h : tOK t) : ∀ i, i < t.n → t.C i < 2 ^ i := h.2.2.2.1
theorem tOK.T {t : Th} (h : tOK t) : ∀ i, i < t.n → 1 ≤ t.T i ∧ t.T i ≤ 30 := h.2.2.2.2.1
theorem tOK.A {t : Th} (h : tOK t) : ∀ i, i < t.n → t.A i < 64 := h.2.2.2.2.2.1
theorem tOK.P {t : Th} (h : tOK t) : ∀ i, i < t.n → t.P i ≤ 4 := h.2.2.2.2.2.2.1
theorem tOK.F {t : Th} (h : tOK t) : ∀ i, i < t.n → t.P i < 4 → t.F i ≤ 5 := h.2.2.2.2.2.2.2.1
theorem tOK.G {t : Th} (h : tOK t) : ∀ i, i < t.n → t.P i < 4 → t.G i ≤ 5 := h.2.2.2.2.2.2.2.2.1
theorem tOK.W {t : Th} (h : tOK t) : ∀ i, i < t.n → t.W i ≤ 1 := h.2.2.2.2.2.2.2.2.2.1
theorem tOK.o {t : Th} (h : tOK t) : ∀ i, i < t.n → t.o i < t.n := h.2.2.2.2.2.2.2.2.2.2.1
theorem tOK.oi {t : Th} (h : tOK t) : ∀ i j, i < t.n → j < t.n → t.o i = t.o j → i = j := h.2.2.2.2.2.2.2.2.2.2.2.1
theorem tOK.b {t : Th} (h : tOK t) : t.b ≤ 1 := h.2.2.2.2.2.2.2.2.2.2.2.2
def tC (t : Th) (ro : Nat → Nat → Int32) : Prop := (ro 11 7 = nI t.n) ∧ (∀ i, i < 7 → ro (13 + i) 0 = nI i) ∧ (∀ i, i < t.n → ro (13 + i) 1 = nI (t.K i)) ∧ (∀ i, i < t.n → ro (13 + i) 2 = nI (t.M i)) ∧ (∀ i, i < t.n → ro (13 + i) 3 = nI (t.C i)) ∧ (∀ i, i < t.n → ro (13 + i) 4 = nI (t.T i)) ∧ (∀ i, i < t.n → ro (13 + i) 5 = nI (t.A i)) ∧ (∀ i, i < t.n → ro (13 + i) 6 = nI (t.P i)) ∧ (∀ i, i < t.n → t.P i < 4 → ro (13 + i) 7 = nI (t.F i)) ∧ (∀ i, i < t.n → t.P i < 4 → ro (13 + i) 8 = nI (t.G i)) ∧ (∀ i, i < t.n → ro (13 + i) 9 = nI (t.W i)) ∧ (ro 32 1 = nI t.n) ∧ (∀ i, i < t.n → ro 33 i = nI (t.o i)) ∧ (ro 11 8 = nI t.b) ∧ (ro 20 1 = nI 4)
theorem tC.n {t : Th} {ro : Nat → Nat → Int32} (h : tC t ro) : ro 11 7 = nI t.n := h.1
theorem tC.N {t : Th} {ro : Nat → Nat → Int32} (h : tC t ro) : ∀ i, i < 7 → ro (13 + i) 0 = nI i := h.2.1
theorem tC.K {t : Th} {ro : Nat → Nat → Int32} (h : tC t ro) : ∀ i, i < t.n → ro (13 + i) 1 = nI (t.K i) := h.2.2.1
theorem tC.M {t : Th} {ro : Nat → Nat → Int32} (h : tC t ro) : ∀ i, i < t.n → ro (13 + i) 2 = nI (t.M i) := h.2.2.2.1
theorem tC.C {t : Th} {ro : Nat → Nat → Int32} (h : tC t ro) : ∀ i, i < t.n → ro (13 + i) 3 = nI (t.C i) := h.2.2.2.2.1
theorem tC.T {t : Th} {ro : Nat → Nat → Int32} (h : tC t ro) : ∀ i, i < t.n → ro (13 + i) 4 = nI (t.T i) := h.2.2.2.2.2.1
theorem tC.A {t : Th} {ro : Nat → Nat → Int32} (h : tC t ro) : ∀ i, i < t.n → ro (13 + i) 5 = nI (t.A i) := h.2.2.2.2.2.2.1
theorem tC.P {t : Th} {ro : Nat → Nat → Int32} (h : tC t ro) : ∀ i, i < t.n → ro (13 + i) 6 = nI (t.P i) := h.2.2.2.2.2.2.2.1
theorem tC.F {t : Th} {ro : Nat → Nat → Int32} (h : tC t ro) : ∀ i, i < t.n → t.P i < 4 → ro (13 + i) 7 = nI (t.F i) := h.2.2.2.2.2.2.2.2.1
theorem tC.G {t : Th} {ro : Nat → Nat → Int32} (h : tC t ro) : ∀ i, i < t.n → t.P i < 4 → ro (13 + i) 8 = nI (t.G i) := h.2.2.2.2.2.2.2.2.2.1
theorem tC.W {t : Th} {ro : Nat → Nat → Int32} (h : tC t ro) : ∀ i, i < t.n → ro (13 + i) 9 = nI (t.W i) := h.2.2.2.2.2.2.2.2.2.2.1
theorem tC.o1 {t : Th} {ro : Nat → Nat → Int32} (h : tC t ro) : ro 32 1 = nI t.n := h.2.2.2.2.2.2.2.2.2.2.2.1
theorem tC.o {t : Th} {ro : Nat → Nat → Int32} (h : tC t ro) : ∀ i, i < t.n → ro 33 i = nI (t.o i) := h.2.2.2.2.2.2.2.2.2.2.2.2.1
theorem tC.b {t : Th} {ro : Nat → Nat → Int32} (h : tC t ro) : ro 11 8 = nI t.b := h.2.2.2.2.2.2.2.2.2.2.2.2.2.1
theorem tC.sp {t : Th} {ro : Nat → Nat → Int32} (h : tC t ro) : ro 20 1 = nI 4 := h.2.2.2.2.2.2.2.2.2.2.2.2.2.2
def tM (t : Th) (ro : Nat → Nat → Int32) : Prop := (ro 102 0 = nI t.n) ∧ (∀ i, i < t.n → ro 102 (10 + 10 * i) = nI (t.K i)) ∧ (∀ i, i < t.n → ro 102 (10 + 10 * i + 1) = nI (t.M i)) ∧ (∀ i, i < t.n → ro 102 (10 + 10 * i + 2) = nI (t.C i)) ∧ (∀ i, i < t.n → ro 102 (10 + 10 * i + 3) = nI (t.T i)) ∧ (∀ i, i < t.n → ro 102 (10 + 10 * i + 4) = nI (t.A i)) ∧ (∀ i, i < t.n → ro 102 (10 + 10 * i + 5) = nI (t.P i)) ∧ (∀ i, i < t.n → t.P i < 4 → ro 102 (10 + 10 * i + 6) = nI (t.F i)) ∧ (∀ i, i < t.n → t.P i < 4 → ro 102 (10 + 10 * i + 7) = nI (t.G i)) ∧ (∀ i, i < t.n → ro 102 (10 + 10 * i + 8) = nI (t.W i)) ∧ (∀ i, i < t.n → ro 102 (80 + i) = nI (t.o i)) ∧ (ro 102 2 = nI t.b)
theorem tM.n {t : Th} {ro : Nat → Nat → Int32} (h : tM t ro) : ro 102 0 = nI t.n := h.1
theorem tM.K {t : Th} {ro : Nat → Nat → Int32} (h : tM t ro) : ∀ i, i < t.n → ro 102 (10 + 10 * i) = nI (t.K i) := h.2.1
theorem tM.M {t : Th} {ro : Nat → Nat → Int32} (h : tM t ro) : ∀ i, i < t.n → ro 102 (10 + 10 * i + 1) = nI (t.M i) := h.2.2.1
theorem tM.C {t : Th} {ro : Nat → Nat → Int32} (h : tM t ro) : ∀ i, i < t.n → ro 102 (10 + 10 * i + 2) = nI (t.C i) := h.2.2.2.1
theorem tM.T {t : Th} {ro : Nat → Nat → Int32} (h : tM t ro) : ∀ i, i < t.n → ro 102 (10 + 10 * i + 3) = nI (t.T i) := h.2.2.2.2.1
theorem tM.A {t : Th} {ro : Nat → Nat → Int32} (h : tM t ro) : ∀ i, i < t.n → ro 102 (10 + 10 * i + 4) = nI (t.A i) := h.2.2.2.2.2.1
theorem tM.P {t : Th} {ro : Nat → Nat → Int32} (h : tM t ro) : ∀ i, i < t.n → ro 102 (10 + 10 * i + 5) = nI (t.P i) := h.2.2.2.2.2.2.1
theorem tM.F {t : Th} {ro : Nat → Nat → Int32} (h : tM t ro) : ∀ i, i < t.n → t.P i < 4 → ro 102 (10 + 10 * i + 6) = nI (t.F i) := h.2.2.2.2.2.2.2.1
theorem tM.G {t : Th} {ro : Nat → Nat → Int32} (h : tM t ro) : ∀ i, i < t.n → t.P i < 4 → ro 102 (10 + 10 * i + 7) = nI (t.G i) := h.2.2.2.2.2.2.2.2.1
theorem tM.W {t : Th} {ro : Nat → Nat → Int32} (h : tM t ro) : ∀ i, i < t.n → ro 102 (10 + 10 * i + 8) = nI (t.W i) := h.2.2.2.2.2.2.2.2.2.1
theorem tM.o {t : Th} {ro : Nat → Nat → Int32} (h : tM t ro) : ∀ i, i < t.n → ro 102 (80 + i) = nI (t.o i) := h.2.2.2.2.2.2.2.2.2.2.1
theorem tM.b {t : Th} {ro : Nat → Nat → Int32} (h : tM t ro) : ro 102 2 = nI t.b := h.2.2.2.2.2.2.2.2.2.2.2
theorem sc_at {i : Nat} (h : i < 7) : f_X2_at 11 (nI i) = 13 + i := by
  have : ∀ i, i < 7 → f_X2_at 11 (nI i) = 13 + i := by decide +kernel
  exact this i h
theorem tC.fr {t : Th} {ro ro' : Nat → Nat → Int32} (h : tC t ro) (hn : t.n ≤ 7) (e : ∀ a, a = 11 ∨ (13 ≤ a ∧ a ≤ 20) ∨ a = 32 ∨ a = 33 → ro' a = ro a) : tC t ro' := by
  have e2 : ∀ i, i < t.n → t.n ≤ 7 → ro' (13 + i) = ro (13 + i) := fun i hi hn => e _ (by omega)
  unfold tC at h ⊢
  rw [e 11 (by omega), e 32 (by omega), e 33 (by omega), e 20 (by omega)]
  obtain ⟨h1, h2, h3, h4, h5, h6, h7, h8, h9, h10, h11, h12⟩ := h
  exact ⟨h1, fun i hi => by rw [e (13 + i) (by omega)]; exact h2 i hi, fun i hi => by rw [e2 i hi hn]; exact h3 i hi, fun i hi => by rw [e2 i hi hn]; exact h4 i hi, fun i hi => by rw [e2 i hi hn]; exact h5 i hi, fun i hi => by rw [e2 i hi hn]; exact h6 i hi, fun i hi => by rw [e2 i hi hn]; exact h7 i hi, fun i hi => by rw [e2 i hi hn]; exact h8 i hi, fun i hi hp => by rw [e2 i hi hn]; exact h9 i hi hp, fun i hi hp => by rw [e2 i hi hn]; exact h10 i hi hp, fun i hi => by rw [e2 i hi hn]; exact h11 i hi, h12⟩
theorem tM.fr {t : Th} {ro ro' : Nat → Nat → Int32} (h : tM t ro) (e : ro' 102 = ro 102) : tM t ro' := by
  unfold tM at h ⊢
  rw [e]
  exact h
theorem le_X2_wills {d : Nat} {E : pEv} {ro : Nat → Nat → Int32} {Q : Option Value → pH → Prop} (s_E : oE E) : wX (d + 2) 24 [.ref 11] (mkH E ro) Q = wG (d + 1) 24 (4, [.ref 11, .int 0, .int 0], [], mkH E ro) Q := by
  refine (wX_in rfl (by decide)).trans ?_
  show wG (d + 1) 24 (0, [.ref 11, .retAddr 0, .retAddr 0], [], mkH E ro) Q = _
  refine (r_iconst (v := 0) rfl rfl rfl).trans ?_
  refine (r_istore_n rfl rfl rfl rfl).trans ?_
  refine (r_iconst (v := 0) rfl rfl rfl).trans ?_
  refine (r_istore_n rfl rfl rfl rfl).trans ?_
  exact rfl

theorem lp_X2_wills_4 {d : Nat} {E : pEv} {ro : Nat → Nat → Int32} {Q : Option Value → pH → Prop} (s_E : oE E) {x1 : Int32} {x2 : Int32} : wG (d + 1) 24 (4, [.ref 11, .int x1, .int x2], [], mkH E ro) Q = (if x2 < (ro 11 7) then wG (d + 1) 24 (4, [.ref 11, .int (x1 ||| ((ro (f_X2_at 11 x2) 9) <<< (x2 &&& 31))), .int (x2 + 1)], [], mkH E ro) Q else Q (some (.int x1)) (mkH E ro)) := by
  refine (r_iload_n rfl rfl rfl).trans ?_
  refine (r_aload_n rfl rfl rfl).trans ?_
  refine (r_getI (ci := 2) (sl := 7) rfl rfl rfl rfl (by decide)).trans ?_
  refine (r_icmp_ge rfl rfl rfl).trans ?_
  refine ite_congr rfl (fun h_0 => ?_) (fun h_0 => ?_)
  · refine (r_iload_n rfl rfl rfl).trans ?_
    refine (r_aload_n rfl rfl rfl).trans ?_
    refine (r_iload_n rfl rfl rfl).trans ?_
    refine (r_inv (m := 20) (c := 2) rfl rfl rfl rfl rfl rfl rfl rfl).trans ?_
    refine (x_X2_at (d := d) s_E oP11).trans ?_
    show wG (d + 1) 24 (18, [.ref 11, .int x1, .int x2], [.ref (f_X2_at 11 x2), .int x1], mkH E ro) Q = _
    refine (r_getI (ci := 5) (sl := 9) rfl rfl rfl (oSc_at oP11).2.1 (oSc_at oP11).1).trans ?_
    refine (r_iload_n rfl rfl rfl).trans ?_
    refine (r_ishl rfl rfl).trans ?_
    refine (r_ior rfl rfl).trans ?_
    refine (r_istore_n rfl rfl rfl rfl).trans ?_
    refine (r_iinc (y := 1) rfl rfl rfl rfl rfl rfl).trans ?_
    refine (r_goto rfl rfl).trans ?_
    exact rfl
  · refine (r_iload_n rfl rfl rfl).trans ?_
    exact r_iret rfl rfl

theorem le_X2_starts {d : Nat} {E : pEv} {ro : Nat → Nat → Int32} {Q : Option Value → pH → Prop} (s_E : oE E) : wX (d + 2) 25 [.ref 11] (mkH E ro) Q = wG (d + 1) 25 (4, [.ref 11, .int 0, .int 0], [], mkH E ro) Q := by
  refine (wX_in rfl (by decide)).trans ?_
  show wG (d + 1) 25 (0, [.ref 11, .retAddr 0, .retAddr 0], [], mkH E ro) Q = _
  refine (r_iconst (v := 0) rfl rfl rfl).trans ?_
  refine (r_istore_n rfl rfl rfl rfl).trans ?_
  refine (r_iconst (v := 0) rfl rfl rfl).trans ?_
  refine (r_istore_n rfl rfl rfl rfl).trans ?_
  exact rfl

theorem lp_X2_starts_4 {d : Nat} {E : pEv} {ro : Nat → Nat → Int32} {Q : Option Value → pH → Prop} (s_E : oE E) {x1 : Int32} {x2 : Int32} : wG (d + 1) 25 (4, [.ref 11, .int x1, .int x2], [], mkH E ro) Q = (if x2 < (ro 11 7) then (if (ro (f_X2_at 11 x2) 3) = 0 then wG (d + 1) 25 (4, [.ref 11, .int (x1 ||| ((f_X9_truth 1) <<< (x2 &&& 31))), .int (x2 + 1)], [], mkH E ro) Q else wG (d + 1) 25 (4, [.ref 11, .int (x1 ||| ((f_X9_truth 0) <<< (x2 &&& 31))), .int (x2 + 1)], [], mkH E ro) Q) else Q (some (.int x1)) (mkH E ro)) := by
  refine (r_iload_n rfl rfl rfl).trans ?_
  refine (r_aload_n rfl rfl rfl).trans ?_
  refine (r_getI (ci := 2) (sl := 7) rfl rfl rfl rfl (by decide)).trans ?_
  refine (r_icmp_ge rfl rfl rfl).trans ?_
  refine ite_congr rfl (fun h_0 => ?_) (fun h_0 => ?_)
  · refine (r_iload_n rfl rfl rfl).trans ?_
    refine (r_aload_n rfl rfl rfl).trans ?_
    refine (r_iload_n rfl rfl rfl).trans ?_
    refine (r_inv (m := 20) (c := 2) rfl rfl rfl rfl rfl rfl rfl rfl).trans ?_
    refine (x_X2_at (d := d) s_E oP11).trans ?_
    show wG (d + 1) 25 (18, [.ref 11, .int x1, .int x2], [.ref (f_X2_at 11 x2), .int x1], mkH E ro) Q = _
    refine (r_getI (ci := 5) (sl := 3) rfl rfl rfl (oSc_at oP11).2.1 (oSc_at oP11).1).trans ?_
    refine (r_if_ne rfl rfl rfl).trans ?_
    refine ite_congr rfl (fun h_1 => ?_) (fun h_1 => ?_)
    · refine (r_iconst (v := 1) rfl rfl rfl).trans ?_
      refine (r_goto rfl rfl).trans ?_
      refine (r_ins (m := 148) rfl rfl rfl rfl rfl rfl).trans ?_
      refine (x_X9_truth (d := d) s_E).trans ?_
      show wG (d + 1) 25 (32, [.ref 11, .int x1, .int x2], [.int (f_X9_truth 1), .int x1], mkH E ro) Q = _
      refine (r_iload_n rfl rfl rfl).trans ?_
      refine (r_ishl rfl rfl).trans ?_
      refine (r_ior rfl rfl).trans ?_
      refine (r_istore_n rfl rfl rfl rfl).trans ?_
      refine (r_iinc (y := 1) rfl rfl rfl rfl rfl rfl).trans ?_
      refine (r_goto rfl rfl).trans ?_
      exact rfl
    · refine (r_iconst (v := 0) rfl rfl rfl).trans ?_
      refine (r_ins (m := 148) rfl rfl rfl rfl rfl rfl).trans ?_
      refine (x_X9_truth (d := d) s_E).trans ?_
      show wG (d + 1) 25 (32, [.ref 11, .int x1, .int x2], [.int (f_X9_truth 0), .int x1], mkH E ro) Q = _
      refine (r_iload_n rfl rfl rfl).trans ?_
      refine (r_ishl rfl rfl).trans ?_
      refine (r_ior rfl rfl).trans ?_
      refine (r_istore_n rfl rfl rfl rfl).trans ?_
      refine (r_iinc (y := 1) rfl rfl rfl rfl rfl rfl).trans ?_
      refine (r_goto rfl rfl).trans ?_
      exact rfl
  · refine (r_iload_n rfl rfl rfl).trans ?_
    exact r_iret rfl rfl

theorem le_X2_givenAhead {d : Nat} {E : pEv} {ro : Nat → Nat → Int32} {Q : Option Value → pH → Prop} (s_E : oE E) {x1 : Int32} : wX (d + 2) 31 [.ref 11, .int x1] (mkH E ro) Q = wG (d + 1) 31 (4, [.ref 11, .int x1, .int 0, .int 0], [], mkH E ro) Q := by
  refine (wX_in rfl (by decide)).trans ?_
  show wG (d + 1) 31 (0, [.ref 11, .int x1, .retAddr 0, .retAddr 0], [], mkH E ro) Q = _
  refine (r_iconst (v := 0) rfl rfl rfl).trans ?_
  refine (r_istore_n rfl rfl rfl rfl).trans ?_
  refine (r_iconst (v := 0) rfl rfl rfl).trans ?_
  refine (r_istore_n rfl rfl rfl rfl).trans ?_
  exact rfl

theorem lp_X2_givenAhead_4 {d : Nat} {E : pEv} {ro : Nat → Nat → Int32} {Q : Option Value → pH → Prop} (s_E : oE E) {x1 : Int32} {x2 : Int32} {x3 : Int32} : wG (d + 1) 31 (4, [.ref 11, .int x1, .int x2, .int x3], [], mkH E ro) Q = (if x3 < x1 then wG (d + 1) 31 (4, [.ref 11, .int x1, .int (x2 ||| ((1 : Int32) <<< ((f_X4_at ro 32 7 x3) &&& 31))), .int (x3 + 1)], [], mkH E ro) Q else Q (some (.int x2)) (mkH E ro)) := by
  refine (r_iload_n rfl rfl rfl).trans ?_
  refine (r_iload_n rfl rfl rfl).trans ?_
  refine (r_icmp_ge rfl rfl rfl).trans ?_
  refine ite_congr rfl (fun h_0 => ?_) (fun h_0 => ?_)
  · refine (r_iload_n rfl rfl rfl).trans ?_
    refine (r_iconst (v := 1) rfl rfl rfl).trans ?_
    refine (r_aload_n rfl rfl rfl).trans ?_
    refine (r_getR (ci := 2) (sl := 4) s_E rfl rfl rfl rfl (by decide) rfl rfl).trans ?_
    refine (r_iload_n rfl rfl rfl).trans ?_
    refine (r_inv (m := 57) (c := 4) rfl rfl rfl rfl rfl rfl rfl rfl).trans ?_
    refine (x_X4_at (d := d) s_E (oR (c := 7) rfl)).trans ?_
    show wG (d + 1) 31 (19, [.ref 11, .int x1, .int x2, .int x3], [.int (f_X4_at ro 32 7 x3), .int 1, .int x2], mkH E ro) Q = _
    refine (r_ishl rfl rfl).trans ?_
    refine (r_ior rfl rfl).trans ?_
    refine (r_istore_n rfl rfl rfl rfl).trans ?_
    refine (r_iinc (y := 1) rfl rfl rfl rfl rfl rfl).trans ?_
    refine (r_goto rfl rfl).trans ?_
    exact rfl
  · refine (r_iload_n rfl rfl rfl).trans ?_
    exact r_iret rfl rfl

theorem le_X2_minutes {d : Nat} {E : pEv} {ro : Nat → Nat → Int32} {Q : Option Value → pH → Prop} (s_E : oE E) : wX (d + 2) 39 [.ref 11] (mkH E ro) Q = wG (d + 1) 39 (4, [.ref 11, .int 0, .int 0], [], mkH E ro) Q := by
  refine (wX_in rfl (by decide)).trans ?_
  show wG (d + 1) 39 (0, [.ref 11, .retAddr 0, .retAddr 0], [], mkH E ro) Q = _
  refine (r_iconst (v := 0) rfl rfl rfl).trans ?_
  refine (r_istore_n rfl rfl rfl rfl).trans ?_
  refine (r_iconst (v := 0) rfl rfl rfl).trans ?_
  refine (r_istore_n rfl rfl rfl rfl).trans ?_
  exact rfl

theorem lp_X2_minutes_4 {d : Nat} {E : pEv} {ro : Nat → Nat → Int32} {Q : Option Value → pH → Prop} (s_E : oE E) {x1 : Int32} {x2 : Int32} : wG (d + 1) 39 (4, [.ref 11, .int x1, .int x2], [], mkH E ro) Q = (if x2 < (ro 11 7) then wG (d + 1) 39 (4, [.ref 11, .int (x1 + (ro (f_X2_at 11 x2) 4)), .int (x2 + 1)], [], mkH E ro) Q else Q (some (.int x1)) (mkH E ro)) := by
  refine (r_iload_n rfl rfl rfl).trans ?_
  refine (r_aload_n rfl rfl rfl).trans ?_
  refine (r_getI (ci := 2) (sl := 7) rfl rfl rfl rfl (by decide)).trans ?_
  refine (r_icmp_ge rfl rfl rfl).trans ?_
  refine ite_congr rfl (fun h_0 => ?_) (fun h_0 => ?_)
  · refine (r_iload_n rfl rfl rfl).trans ?_
    refine (r_aload_n rfl rfl rfl).trans ?_
    refine (r_iload_n rfl rfl rfl).trans ?_
    refine (r_inv (m := 20) (c := 2) rfl rfl rfl rfl rfl rfl rfl rfl).trans ?_
    refine (x_X2_at (d := d) s_E oP11).trans ?_
    show wG (d + 1) 39 (18, [.ref 11, .int x1, .int x2], [.ref (f_X2_at 11 x2), .int x1], mkH E ro) Q = _
    refine (r_getI (ci := 5) (sl := 4) rfl rfl rfl (oSc_at oP11).2.1 (oSc_at oP11).1).trans ?_
    refine (r_iadd rfl rfl).trans ?_
    refine (r_istore_n rfl rfl rfl rfl).trans ?_
    refine (r_iinc (y := 1) rfl rfl rfl rfl rfl rfl).trans ?_
    refine (r_goto rfl rfl).trans ?_
    exact rfl
  · refine (r_iload_n rfl rfl rfl).trans ?_
    exact r_iret rfl rfl

theorem le_X2_outcome {d : Nat} {E : pEv} {ro : Nat → Nat → Int32} {Q : Option Value → pH → Prop} (s_E : oE E) {x1 : Int32} {x2 : Int32} {x3 : Int32} : wX (d + 3) 27 [.ref 11, .int x1, .int x2, .int x3] (mkH E ro) Q = wG (d + 2) 27 (6, [.ref 11, .int x1, .int x2, .int x3, .int 0, .int 0, .retAddr 0, .retAddr 0], [], mkH E ro) Q := by
  refine (wX_in rfl (by decide)).trans ?_
  show wG (d + 2) 27 (0, [.ref 11, .int x1, .int x2, .int x3, .retAddr 0, .retAddr 0, .retAddr 0, .retAddr 0], [], mkH E ro) Q = _
  refine (r_iconst (v := 0) rfl rfl rfl).trans ?_
  refine (r_istore rfl rfl rfl rfl).trans ?_
  refine (r_iconst (v := 0) rfl rfl rfl).trans ?_
  refine (r_istore rfl rfl rfl rfl).trans ?_
  exact rfl

theorem lp_X2_outcome_6 {d : Nat} {E : pEv} {ro : Nat → Nat → Int32} {Q : Option Value → pH → Prop} (s_E : oE E) {x1 : Int32} {x2 : Int32} {x3 : Int32} {x4 : Int32} {x5 : Int32} {v6 : Value} {v7 : Value} : wG (d + 2) 27 (6, [.ref 11, .int x1, .int x2, .int x3, .int x4, .int x5, v6, v7], [], mkH E ro) Q = (if x5 < (ro 11 7) then (if (ro (f_X2_at 11 x5) 3) = 0 then (if ((x1 >>> (x5 &&& 31)) &&& 1) = 1 then wG (d + 2) 27 (6, [.ref 11, .int x1, .int x2, .int x3, .int (x4 ||| ((f_X9_truth 1) <<< (x5 &&& 31))), .int (x5 + 1), .ref (f_X2_at 11 x5), .int 1], [], mkH E ro) Q else wG (d + 2) 27 (6, [.ref 11, .int x1, .int x2, .int x3, .int (x4 ||| ((f_X9_truth 0) <<< (x5 &&& 31))), .int (x5 + 1), .ref (f_X2_at 11 x5), .int 0], [], mkH E ro) Q) else (if x5 = x2 then wG (d + 2) 27 (6, [.ref 11, .int x1, .int x2, .int x3, .int (x4 ||| ((f_X9_truth (f_X5_comesOf ro (f_X2_at 11 x5) (f_J6_bitCount_0f7a4 ((ro (f_X2_at 11 x5) 3) &&& x4)) x3)) <<< (x5 &&& 31))), .int (x5 + 1), .ref (f_X2_at 11 x5), .int (f_X5_comesOf ro (f_X2_at 11 x5) (f_J6_bitCount_0f7a4 ((ro (f_X2_at 11 x5) 3) &&& x4)) x3)], [], mkH E ro) Q else wG (d + 2) 27 (6, [.ref 11, .int x1, .int x2, .int x3, .int (x4 ||| ((f_X9_truth (f_X5_comesOf ro (f_X2_at 11 x5) (f_J6_bitCount_0f7a4 ((ro (f_X2_at 11 x5) 3) &&& x4)) (ro (f_X2_at 11 x5) 1))) <<< (x5 &&& 31))), .int (x5 + 1), .ref (f_X2_at 11 x5), .int (f_X5_comesOf ro (f_X2_at 11 x5) (f_J6_bitCount_0f7a4 ((ro (f_X2_at 11 x5) 3) &&& x4)) (ro (f_X2_at 11 x5) 1))], [], mkH E ro) Q)) else Q (some (.int x4)) (mkH E ro)) := by
  refine (r_iload rfl rfl rfl).trans ?_
  refine (r_aload_n rfl rfl rfl).trans ?_
  refine (r_getI (ci := 2) (sl := 7) rfl rfl rfl rfl (by decide)).trans ?_
  refine (r_icmp_ge rfl rfl rfl).trans ?_
  refine ite_congr rfl (fun h_0 => ?_) (fun h_0 => ?_)
  · refine (r_aload_n rfl rfl rfl).trans ?_
    refine (r_iload rfl rfl rfl).trans ?_
    refine (r_inv (m := 20) (c := 2) rfl rfl rfl rfl rfl rfl rfl rfl).trans ?_
    refine (x_X2_at (d := d + 1) s_E oP11).trans ?_
    show wG (d + 2) 27 (21, [.ref 11, .int x1, .int x2, .int x3, .int x4, .int x5, v6, v7], [.ref (f_X2_at 11 x5)], mkH E ro) Q = _
    refine (r_astore rfl rfl rfl rfl).trans ?_
    refine (r_aload rfl rfl rfl).trans ?_
    refine (r_getI (ci := 5) (sl := 3) rfl rfl rfl (oSc_at oP11).2.1 (oSc_at oP11).1).trans ?_
    refine (r_if_ne rfl rfl rfl).trans ?_
    refine ite_congr rfl (fun h_1 => ?_) (fun h_1 => ?_)
    · refine (r_iload_n rfl rfl rfl).trans ?_
      refine (r_iload rfl rfl rfl).trans ?_
      refine (r_ishr rfl rfl).trans ?_
      refine (r_iconst (v := 1) rfl rfl rfl).trans ?_
      refine (r_iand rfl rfl).trans ?_
      refine (r_iconst (v := 1) rfl rfl rfl).trans ?_
      refine (r_icmp_ne rfl rfl rfl).trans ?_
      refine ite_congr rfl (fun h_2 => ?_) (fun h_2 => ?_)
      · refine (r_iconst (v := 1) rfl rfl rfl).trans ?_
        refine (r_goto rfl rfl).trans ?_
        refine (r_istore rfl rfl rfl rfl).trans ?_
        refine (r_goto rfl rfl).trans ?_
        refine (r_iload rfl rfl rfl).trans ?_
        refine (r_iload rfl rfl rfl).trans ?_
        refine (r_ins (m := 148) rfl rfl rfl rfl rfl rfl).trans ?_
        refine (x_X9_truth (d := d + 1) s_E).trans ?_
        show wG (d + 2) 27 (91, [.ref 11, .int x1, .int x2, .int x3, .int x4, .int x5, .ref (f_X2_at 11 x5), .int 1], [.int (f_X9_truth 1), .int x4], mkH E ro) Q = _
        refine (r_iload rfl rfl rfl).trans ?_
        refine (r_ishl rfl rfl).trans ?_
        refine (r_ior rfl rfl).trans ?_
        refine (r_istore rfl rfl rfl rfl).trans ?_
        refine (r_iinc (y := 1) rfl rfl rfl rfl rfl rfl).trans ?_
        refine (r_goto rfl rfl).trans ?_
        exact rfl
      · refine (r_iconst (v := 0) rfl rfl rfl).trans ?_
        refine (r_istore rfl rfl rfl rfl).trans ?_
        refine (r_goto rfl rfl).trans ?_
        refine (r_iload rfl rfl rfl).trans ?_
        refine (r_iload rfl rfl rfl).trans ?_
        refine (r_ins (m := 148) rfl rfl rfl rfl rfl rfl).trans ?_
        refine (x_X9_truth (d := d + 1) s_E).trans ?_
        show wG (d + 2) 27 (91, [.ref 11, .int x1, .int x2, .int x3, .int x4, .int x5, .ref (f_X2_at 11 x5), .int 0], [.int (f_X9_truth 0), .int x4], mkH E ro) Q = _
        refine (r_iload rfl rfl rfl).trans ?_
        refine (r_ishl rfl rfl).trans ?_
        refine (r_ior rfl rfl).trans ?_
        refine (r_istore rfl rfl rfl rfl).trans ?_
        refine (r_iinc (y := 1) rfl rfl rfl rfl rfl rfl).trans ?_
        refine (r_goto rfl rfl).trans ?_
        exact rfl
    · refine (r_aload rfl rfl rfl).trans ?_
      refine (r_aload rfl rfl rfl).trans ?_
      refine (r_getI (ci := 5) (sl := 3) rfl rfl rfl (oSc_at oP11).2.1 (oSc_at oP11).1).trans ?_
      refine (r_iload rfl rfl rfl).trans ?_
      refine (r_iand rfl rfl).trans ?_
      refine (r_ins (m := 255) rfl rfl rfl rfl rfl rfl).trans ?_
      refine (x_J6_bitCount_0f7a4 (d := d + 1) s_E).trans ?_
      show wG (d + 2) 27 (64, [.ref 11, .int x1, .int x2, .int x3, .int x4, .int x5, .ref (f_X2_at 11 x5), v7], [.int (f_J6_bitCount_0f7a4 ((ro (f_X2_at 11 x5) 3) &&& x4)), .ref (f_X2_at 11 x5)], mkH E ro) Q = _
      refine (r_iload rfl rfl rfl).trans ?_
      refine (r_iload_n rfl rfl rfl).trans ?_
      refine (r_icmp_ne rfl rfl rfl).trans ?_
      refine ite_congr rfl (fun h_2 => ?_) (fun h_2 => ?_)
      · refine (r_iload_n rfl rfl rfl).trans ?_
        refine (r_goto rfl rfl).trans ?_
        refine (r_inv (m := 79) (c := 5) rfl rfl rfl rfl rfl rfl (oSc_at oP11).2.1 rfl).trans ?_
        refine (x_X5_comesOf (d := d) s_E (oSc_at oP11)).trans ?_
        show wG (d + 2) 27 (82, [.ref 11, .int x1, .int x2, .int x3, .int x4, .int x5, .ref (f_X2_at 11 x5), v7], [.int (f_X5_comesOf ro (f_X2_at 11 x5) (f_J6_bitCount_0f7a4 ((ro (f_X2_at 11 x5) 3) &&& x4)) x3)], mkH E ro) Q = _
        refine (r_istore rfl rfl rfl rfl).trans ?_
        refine (r_iload rfl rfl rfl).trans ?_
        refine (r_iload rfl rfl rfl).trans ?_
        refine (r_ins (m := 148) rfl rfl rfl rfl rfl rfl).trans ?_
        refine (x_X9_truth (d := d + 1) s_E).trans ?_
        show wG (d + 2) 27 (91, [.ref 11, .int x1, .int x2, .int x3, .int x4, .int x5, .ref (f_X2_at 11 x5), .int (f_X5_comesOf ro (f_X2_at 11 x5) (f_J6_bitCount_0f7a4 ((ro (f_X2_at 11 x5) 3) &&& x4)) x3)], [.int (f_X9_truth (f_X5_comesOf ro (f_X2_at 11 x5) (f_J6_bitCount_0f7a4 ((ro (f_X2_at 11 x5) 3) &&& x4)) x3)), .int x4], mkH E ro) Q = _
        refine (r_iload rfl rfl rfl).trans ?_
        refine (r_ishl rfl rfl).trans ?_
        refine (r_ior rfl rfl).trans ?_
        refine (r_istore rfl rfl rfl rfl).trans ?_
        refine (r_iinc (y := 1) rfl rfl rfl rfl rfl rfl).trans ?_
        refine (r_goto rfl rfl).trans ?_
        exact rfl
      · refine (r_aload rfl rfl rfl).trans ?_
        refine (r_getI (ci := 5) (sl := 1) rfl rfl rfl (oSc_at oP11).2.1 (oSc_at oP11).1).trans ?_
        refine (r_inv (m := 79) (c := 5) rfl rfl rfl rfl rfl rfl (oSc_at oP11).2.1 rfl).trans ?_
        refine (x_X5_comesOf (d := d) s_E (oSc_at oP11)).trans ?_
        show wG (d + 2) 27 (82, [.ref 11, .int x1, .int x2, .int x3, .int x4, .int x5, .ref (f_X2_at 11 x5), v7], [.int (f_X5_comesOf ro (f_X2_at 11 x5) (f_J6_bitCount_0f7a4 ((ro (f_X2_at 11 x5) 3) &&& x4)) (ro (f_X2_at 11 x5) 1))], mkH E ro) Q = _
        refine (r_istore rfl rfl rfl rfl).trans ?_
        refine (r_iload rfl rfl rfl).trans ?_
        refine (r_iload rfl rfl rfl).trans ?_
        refine (r_ins (m := 148) rfl rfl rfl rfl rfl rfl).trans ?_
        refine (x_X9_truth (d := d + 1) s_E).trans ?_
        show wG (d + 2) 27 (91, [.ref 11, .int x1, .int x2, .int x3, .int x4, .int x5, .ref (f_X2_at 11 x5), .int (f_X5_comesOf ro (f_X2_at 11 x5) (f_J6_bitCount_0f7a4 ((ro (f_X2_at 11 x5) 3) &&& x4)) (ro (f_X2_at 11 x5) 1))], [.int (f_X9_truth (f_X5_comesOf ro (f_X2_at 11 x5) (f_J6_bitCount_0f7a4 ((ro (f_X2_at 11 x5) 3) &&& x4)) (ro (f_X2_at 11 x5) 1))), .int x4], mkH E ro) Q = _
        refine (r_iload rfl rfl rfl).trans ?_
        refine (r_ishl rfl rfl).trans ?_
        refine (r_ior rfl rfl).trans ?_
        refine (r_istore rfl rfl rfl rfl).trans ?_
        refine (r_iinc (y := 1) rfl rfl rfl rfl rfl rfl).trans ?_
        refine (r_goto rfl rfl).trans ?_
        exact rfl
  · refine (r_iload rfl rfl rfl).trans ?_
    exact r_iret rfl rfl

theorem le_X2_isWholeOrder {d : Nat} {E : pEv} {ro : Nat → Nat → Int32} {Q : Option Value → pH → Prop} (s_E : oE E) {r1 c_h1 : Nat} (h1 : oRow r1 c_h1) : wX (d + 2) 40 [.ref 11, .ref r1] (mkH E ro) Q = wG (d + 1) 40 (4, [.ref 11, .ref r1, .int 0, .int 0, .retAddr 0], [], mkH E ro) Q := by
  refine (wX_in rfl (by decide)).trans ?_
  show wG (d + 1) 40 (0, [.ref 11, .ref r1, .retAddr 0, .retAddr 0, .retAddr 0], [], mkH E ro) Q = _
  refine (r_iconst (v := 0) rfl rfl rfl).trans ?_
  refine (r_istore_n rfl rfl rfl rfl).trans ?_
  refine (r_iconst (v := 0) rfl rfl rfl).trans ?_
  refine (r_istore_n rfl rfl rfl rfl).trans ?_
  exact rfl

theorem lp_X2_isWholeOrder_4 {d : Nat} {E : pEv} {ro : Nat → Nat → Int32} {Q : Option Value → pH → Prop} (s_E : oE E) {r1 c_h1 : Nat} (h1 : oRow r1 c_h1) {x2 : Int32} {x3 : Int32} {v4 : Value} : wG (d + 1) 40 (4, [.ref 11, .ref r1, .int x2, .int x3, v4], [], mkH E ro) Q = (if x3 < (ro r1 1) then (if (f_X4_at ro r1 c_h1 x3) < 0 then Q (some (.int 0)) (mkH E ro) else (if (f_X4_at ro r1 c_h1 x3) < (ro 11 7) then wG (d + 1) 40 (4, [.ref 11, .ref r1, .int (x2 ||| ((1 : Int32) <<< ((f_X4_at ro r1 c_h1 x3) &&& 31))), .int (x3 + 1), .int (f_X4_at ro r1 c_h1 x3)], [], mkH E ro) Q else Q (some (.int 0)) (mkH E ro))) else (if (ro r1 1) = (ro 11 7) then (if x2 = (f_X2_all ro) then Q (some (.int 1)) (mkH E ro) else Q (some (.int 0)) (mkH E ro)) else Q (some (.int 0)) (mkH E ro))) := by
  refine (r_iload_n rfl rfl rfl).trans ?_
  refine (r_aload_n rfl rfl rfl).trans ?_
  refine (r_getI (ci := 4) (sl := 1) rfl rfl rfl h1.2.1 h1.1).trans ?_
  refine (r_icmp_ge rfl rfl rfl).trans ?_
  refine ite_congr rfl (fun h_0 => ?_) (fun h_0 => ?_)
  · refine (r_aload_n rfl rfl rfl).trans ?_
    refine (r_iload_n rfl rfl rfl).trans ?_
    refine (r_inv (m := 57) (c := 4) rfl rfl rfl rfl rfl rfl h1.2.1 rfl).trans ?_
    refine (x_X4_at (d := d) s_E h1).trans ?_
    show wG (d + 1) 40 (17, [.ref 11, .ref r1, .int x2, .int x3, v4], [.int (f_X4_at ro r1 c_h1 x3)], mkH E ro) Q = _
    refine (r_istore rfl rfl rfl rfl).trans ?_
    refine (r_iload rfl rfl rfl).trans ?_
    refine (r_if_lt rfl rfl rfl).trans ?_
    refine ite_congr rfl (fun h_1 => ?_) (fun h_1 => ?_)
    · refine (r_iconst (v := 0) rfl rfl rfl).trans ?_
      exact r_zret rfl rfl rfl
    · refine (r_iload rfl rfl rfl).trans ?_
      refine (r_aload_n rfl rfl rfl).trans ?_
      refine (r_getI (ci := 2) (sl := 7) rfl rfl rfl rfl (by decide)).trans ?_
      refine (r_icmp_lt rfl rfl rfl).trans ?_
      refine ite_congr rfl (fun h_2 => ?_) (fun h_2 => ?_)
      · refine (r_iload_n rfl rfl rfl).trans ?_
        refine (r_iconst (v := 1) rfl rfl rfl).trans ?_
        refine (r_iload rfl rfl rfl).trans ?_
        refine (r_ishl rfl rfl).trans ?_
        refine (r_ior rfl rfl).trans ?_
        refine (r_istore_n rfl rfl rfl rfl).trans ?_
        refine (r_iinc (y := 1) rfl rfl rfl rfl rfl rfl).trans ?_
        refine (r_goto rfl rfl).trans ?_
        exact rfl
      · refine (r_iconst (v := 0) rfl rfl rfl).trans ?_
        exact r_zret rfl rfl rfl
  · refine (r_aload_n rfl rfl rfl).trans ?_
    refine (r_getI (ci := 4) (sl := 1) rfl rfl rfl h1.2.1 h1.1).trans ?_
    refine (r_aload_n rfl rfl rfl).trans ?_
    refine (r_getI (ci := 2) (sl := 7) rfl rfl rfl rfl (by decide)).trans ?_
    refine (r_icmp_ne rfl rfl rfl).trans ?_
    refine ite_congr rfl (fun h_1 => ?_) (fun h_1 => ?_)
    · refine (r_iload_n rfl rfl rfl).trans ?_
      refine (r_aload_n rfl rfl rfl).trans ?_
      refine (r_inv (m := 22) (c := 2) rfl rfl rfl rfl rfl rfl rfl rfl).trans ?_
      refine (x_X2_all (d := d) s_E).trans ?_
      show wG (d + 1) 40 (64, [.ref 11, .ref r1, .int x2, .int x3, v4], [.int (f_X2_all ro), .int x2], mkH E ro) Q = _
      refine (r_icmp_ne rfl rfl rfl).trans ?_
      refine ite_congr rfl (fun h_2 => ?_) (fun h_2 => ?_)
      · refine (r_iconst (v := 1) rfl rfl rfl).trans ?_
        refine (r_goto rfl rfl).trans ?_
        exact r_zret rfl rfl rfl
      · refine (r_iconst (v := 0) rfl rfl rfl).trans ?_
        exact r_zret rfl rfl rfl
    · refine (r_iconst (v := 0) rfl rfl rfl).trans ?_
      exact r_zret rfl rfl rfl

theorem le_X2_understoodBy {d : Nat} {E : pEv} {ro : Nat → Nat → Int32} {Q : Option Value → pH → Prop} (s_E : oE E) {x1 : Int32} : wX (d + 2) 36 [.ref 11, .int x1] (mkH E ro) Q = wG (d + 1) 36 (6, [.ref 11, .int x1, .int ((1 : Int32) <<< (x1 &&& 31)), .int x1, .retAddr 0], [], mkH E ro) Q := by
  refine (wX_in rfl (by decide)).trans ?_
  show wG (d + 1) 36 (0, [.ref 11, .int x1, .retAddr 0, .retAddr 0, .retAddr 0], [], mkH E ro) Q = _
  refine (r_iconst (v := 1) rfl rfl rfl).trans ?_
  refine (r_iload_n rfl rfl rfl).trans ?_
  refine (r_ishl rfl rfl).trans ?_
  refine (r_istore_n rfl rfl rfl rfl).trans ?_
  refine (r_iload_n rfl rfl rfl).trans ?_
  refine (r_istore_n rfl rfl rfl rfl).trans ?_
  exact rfl

theorem lp_X2_understoodBy_6 {d : Nat} {E : pEv} {ro : Nat → Nat → Int32} {Q : Option Value → pH → Prop} (s_E : oE E) {x1 : Int32} {x2 : Int32} {x3 : Int32} {v4 : Value} : wG (d + 1) 36 (6, [.ref 11, .int x1, .int x2, .int x3, v4], [], mkH E ro) Q = (if x3 < 0 then wG (d + 1) 36 (41, [.ref 11, .int x1, .int x2, .int 0, .int 0], [], mkH E ro) Q else (if ((x2 >>> (x3 &&& 31)) &&& 1) = 1 then wG (d + 1) 36 (6, [.ref 11, .int x1, .int (x2 ||| (ro (f_X2_at 11 x3) 3)), .int (x3 + (-1)), v4], [], mkH E ro) Q else wG (d + 1) 36 (6, [.ref 11, .int x1, .int x2, .int (x3 + (-1)), v4], [], mkH E ro) Q)) := by
  refine (r_iload_n rfl rfl rfl).trans ?_
  refine (r_if_lt rfl rfl rfl).trans ?_
  refine ite_congr rfl (fun h_0 => ?_) (fun h_0 => ?_)
  · refine (r_iconst (v := 0) rfl rfl rfl).trans ?_
    refine (r_istore_n rfl rfl rfl rfl).trans ?_
    refine (r_iconst (v := 0) rfl rfl rfl).trans ?_
    refine (r_istore rfl rfl rfl rfl).trans ?_
    exact rfl
  · refine (r_iload_n rfl rfl rfl).trans ?_
    refine (r_iload_n rfl rfl rfl).trans ?_
    refine (r_ishr rfl rfl).trans ?_
    refine (r_iconst (v := 1) rfl rfl rfl).trans ?_
    refine (r_iand rfl rfl).trans ?_
    refine (r_iconst (v := 1) rfl rfl rfl).trans ?_
    refine (r_icmp_ne rfl rfl rfl).trans ?_
    refine ite_congr rfl (fun h_1 => ?_) (fun h_1 => ?_)
    · refine (r_iload_n rfl rfl rfl).trans ?_
      refine (r_aload_n rfl rfl rfl).trans ?_
      refine (r_iload_n rfl rfl rfl).trans ?_
      refine (r_inv (m := 20) (c := 2) rfl rfl rfl rfl rfl rfl rfl rfl).trans ?_
      refine (x_X2_at (d := d) s_E oP11).trans ?_
      show wG (d + 1) 36 (25, [.ref 11, .int x1, .int x2, .int x3, v4], [.ref (f_X2_at 11 x3), .int x2], mkH E ro) Q = _
      refine (r_getI (ci := 5) (sl := 3) rfl rfl rfl (oSc_at oP11).2.1 (oSc_at oP11).1).trans ?_
      refine (r_ior rfl rfl).trans ?_
      refine (r_istore_n rfl rfl rfl rfl).trans ?_
      refine (r_iinc (y := (-1)) rfl rfl rfl rfl rfl rfl).trans ?_
      refine (r_goto rfl rfl).trans ?_
      exact rfl
    · refine (r_iinc (y := (-1)) rfl rfl rfl rfl rfl rfl).trans ?_
      refine (r_goto rfl rfl).trans ?_
      exact rfl

theorem lp_X2_understoodBy_41 {d : Nat} {E : pEv} {ro : Nat → Nat → Int32} {Q : Option Value → pH → Prop} (s_E : oE E) {x1 : Int32} {x2 : Int32} {x3 : Int32} {x4 : Int32} : wG (d + 1) 36 (41, [.ref 11, .int x1, .int x2, .int x3, .int x4], [], mkH E ro) Q = (if x4 < (ro 11 7) then (if ((x2 >>> ((f_X4_at ro 32 7 x4) &&& 31)) &&& 1) = 1 then wG (d + 1) 36 (41, [.ref 11, .int x1, .int x2, .int x4, .int (x4 + 1)], [], mkH E ro) Q else wG (d + 1) 36 (41, [.ref 11, .int x1, .int x2, .int x3, .int (x4 + 1)], [], mkH E ro) Q) else Q (some (.int x3)) (mkH E ro)) := by
  refine (r_iload rfl rfl rfl).trans ?_
  refine (r_aload_n rfl rfl rfl).trans ?_
  refine (r_getI (ci := 2) (sl := 7) rfl rfl rfl rfl (by decide)).trans ?_
  refine (r_icmp_ge rfl rfl rfl).trans ?_
  refine ite_congr rfl (fun h_0 => ?_) (fun h_0 => ?_)
  · refine (r_iload_n rfl rfl rfl).trans ?_
    refine (r_aload_n rfl rfl rfl).trans ?_
    refine (r_getR (ci := 2) (sl := 4) s_E rfl rfl rfl rfl (by decide) rfl rfl).trans ?_
    refine (r_iload rfl rfl rfl).trans ?_
    refine (r_inv (m := 57) (c := 4) rfl rfl rfl rfl rfl rfl rfl rfl).trans ?_
    refine (x_X4_at (d := d) s_E (oR (c := 7) rfl)).trans ?_
    show wG (d + 1) 36 (60, [.ref 11, .int x1, .int x2, .int x3, .int x4], [.int (f_X4_at ro 32 7 x4), .int x2], mkH E ro) Q = _
    refine (r_ishr rfl rfl).trans ?_
    refine (r_iconst (v := 1) rfl rfl rfl).trans ?_
    refine (r_iand rfl rfl).trans ?_
    refine (r_iconst (v := 1) rfl rfl rfl).trans ?_
    refine (r_icmp_ne rfl rfl rfl).trans ?_
    refine ite_congr rfl (fun h_1 => ?_) (fun h_1 => ?_)
    · refine (r_iload rfl rfl rfl).trans ?_
      refine (r_istore_n rfl rfl rfl rfl).trans ?_
      refine (r_iinc (y := 1) rfl rfl rfl rfl rfl rfl).trans ?_
      refine (r_goto rfl rfl).trans ?_
      exact rfl
    · refine (r_iinc (y := 1) rfl rfl rfl rfl rfl rfl).trans ?_
      refine (r_goto rfl rfl).trans ?_
      exact rfl
  · refine (r_iload_n rfl rfl rfl).trans ?_
    exact r_iret rfl rfl

theorem le_X10_ones {d : Nat} {E : pEv} {ro : Nat → Nat → Int32} {Q : Option Value → pH → Prop} (s_E : oE E) {x0 : Int32} : wX (d + 1) 159 [.int x0] (mkH E ro) Q = wG (d) 159 (4, [.int x0, .int 0, .int 0], [], mkH E ro) Q := by
  refine (wX_in rfl (by decide)).trans ?_
  show wG (d) 159 (0, [.int x0, .retAddr 0, .retAddr 0], [], mkH E ro) Q = _
  refine (r_iconst (v := 0) rfl rfl rfl).trans ?_
  refine (r_istore_n rfl rfl rfl rfl).trans ?_
  refine (r_iconst (v := 0) rfl rfl rfl).trans ?_
  refine (r_istore_n rfl rfl rfl rfl).trans ?_
  exact rfl

theorem lp_X10_ones_4 {d : Nat} {E : pEv} {ro : Nat → Nat → Int32} {Q : Option Value → pH → Prop} (s_E : oE E) {x0 : Int32} {x1 : Int32} {x2 : Int32} : wG (d) 159 (4, [.int x0, .int x1, .int x2], [], mkH E ro) Q = (if x2 < 7 then wG (d) 159 (4, [.int x0, .int (x1 + ((x0 >>> (x2 &&& 31)) &&& 1)), .int (x2 + 1)], [], mkH E ro) Q else Q (some (.int x1)) (mkH E ro)) := by
  refine (r_iload_n rfl rfl rfl).trans ?_
  refine (r_bipush (v := 7) rfl rfl rfl).trans ?_
  refine (r_icmp_ge rfl rfl rfl).trans ?_
  refine ite_congr rfl (fun h_0 => ?_) (fun h_0 => ?_)
  · refine (r_iload_n rfl rfl rfl).trans ?_
    refine (r_iload_n rfl rfl rfl).trans ?_
    refine (r_iload_n rfl rfl rfl).trans ?_
    refine (r_ishr rfl rfl).trans ?_
    refine (r_iconst (v := 1) rfl rfl rfl).trans ?_
    refine (r_iand rfl rfl).trans ?_
    refine (r_iadd rfl rfl).trans ?_
    refine (r_istore_n rfl rfl rfl rfl).trans ?_
    refine (r_iinc (y := 1) rfl rfl rfl rfl rfl rfl).trans ?_
    refine (r_goto rfl rfl).trans ?_
    exact rfl
  · refine (r_iload_n rfl rfl rfl).trans ?_
    exact r_iret rfl rfl

section TT
variable {d : Nat} {E : pEv} {ro : Nat → Nat → Int32} {Q : Option Value → pH → Prop} {t : Th}
/-- the wills as a set -/
def wl (t : Th) : Nat := it (fun i a => a ||| t.W i <<< i) t.n 0 0
theorem x_X2_wills (s_E : oE E) (ok : tOK t) (hC : tC t ro) : wX (d + 2) 24 [.ref 11] (mkH E ro) Q = Q (some (.int (nI (wl t)))) (mkH E ro) := by
  have hn := ok.n
  refine (le_X2_wills s_E).trans ?_
  exact loop_it (P := fun i a => wG (d + 1) 24 (4, [.ref 11, .int (nI a), .int (nI i)], [], mkH E ro) Q) (R := fun a => Q (some (.int (nI a))) (mkH E ro)) (I := fun _ _ => True) (n := t.n)
    (fun i a hi _ => by
      show wG (d + 1) 24 (4, [.ref 11, .int (nI a), .int (nI i)], [], mkH E ro) Q = _
      rw [lp_X2_wills_4 s_E, hC.n, if_pos (nI_lt hi (by omega)), sh31 (by omega), sc_at (by omega), hC.W i hi, nI_shl (by omega), ← nI_or, ← nI_succ])
    (fun _ _ _ _ => trivial)
    (fun a _ => by
      show wG (d + 1) 24 (4, [.ref 11, .int (nI a), .int (nI t.n)], [], mkH E ro) Q = _
      rw [lp_X2_wills_4 s_E, hC.n, if_neg (nI_nlt (Nat.le_refl _) (by omega))])
    t.n 0 0 (by omega) trivial
/-- the scenes without causes -/
def st (t : Th) : Nat := it (fun i a => a ||| (if t.C i = 0 then 1 else 0) <<< i) t.n 0 0
theorem x_X2_starts (s_E : oE E) (ok : tOK t) (hC : tC t ro) : wX (d + 2) 25 [.ref 11] (mkH E ro) Q = Q (some (.int (nI (st t)))) (mkH E ro) := by
  have hn := ok.n
  refine (le_X2_starts s_E).trans ?_
  exact loop_it (P := fun i a => wG (d + 1) 25 (4, [.ref 11, .int (nI a), .int (nI i)], [], mkH E ro) Q) (R := fun a => Q (some (.int (nI a))) (mkH E ro)) (I := fun _ _ => True) (n := t.n)
    (fun i a hi _ => by
      have hc := ok.C i hi
      have h2 : 2 ^ i ≤ 2 ^ 7 := Nat.pow_le_pow_right (by decide) (by omega)
      show wG (d + 1) 25 (4, [.ref 11, .int (nI a), .int (nI i)], [], mkH E ro) Q = _
      rw [lp_X2_starts_4 s_E, hC.n, if_pos (nI_lt hi (by omega)), sh31 (by omega), sc_at (by omega), hC.C i hi, ← nI_succ]
      rw [show f_X9_truth 1 = nI 1 from by decide, show f_X9_truth 0 = nI 0 from by decide, nI_shl (by omega), nI_shl (by omega), ← nI_or, ← nI_or]
      by_cases h : t.C i = 0
      · rw [h, if_pos nI_0, if_pos rfl]
      · rw [if_neg (nI_ne0 (by omega) (by omega)), if_neg h])
    (fun _ _ _ _ => trivial)
    (fun a _ => by
      show wG (d + 1) 25 (4, [.ref 11, .int (nI a), .int (nI t.n)], [], mkH E ro) Q = _
      rw [lp_X2_starts_4 s_E, hC.n, if_neg (nI_nlt (Nat.le_refl _) (by omega))])
    t.n 0 0 (by omega) trivial
theorem rK32 (ok : tOK t) (hC : tC t ro) : rK ro 32 7 t.n := ⟨hC.o1, ok.n, by decide⟩
/-- what is given ahead of a place -/
def ga (t : Th) (p : Nat) : Nat := it (fun i a => a ||| 1 <<< t.o i) p 0 0
theorem x_X2_givenAhead (s_E : oE E) (ok : tOK t) (hC : tC t ro) {p : Nat} (hp : p ≤ t.n) : wX (d + 2) 31 [.ref 11, .int (nI p)] (mkH E ro) Q = Q (some (.int (nI (ga t p)))) (mkH E ro) := by
  have hn := ok.n
  refine (le_X2_givenAhead s_E).trans ?_
  exact loop_it (P := fun i a => wG (d + 1) 31 (4, [.ref 11, .int (nI p), .int (nI a), .int (nI i)], [], mkH E ro) Q) (R := fun a => Q (some (.int (nI a))) (mkH E ro)) (I := fun _ _ => True) (n := p)
    (fun i a hi _ => by
      have ho := ok.o i (by omega)
      show wG (d + 1) 31 (4, [.ref 11, .int (nI p), .int (nI a), .int (nI i)], [], mkH E ro) Q = _
      rw [lp_X2_givenAhead_4 s_E, if_pos (nI_lt hi (by omega)), at_in (rK32 ok hC) (by omega), hC.o i (by omega), sh31 (by omega), show (1 : Int32) = nI 1 from rfl, nI_shl (by omega), ← nI_or, nI_add])
    (fun _ _ _ _ => trivial)
    (fun a _ => by
      show wG (d + 1) 31 (4, [.ref 11, .int (nI p), .int (nI a), .int (nI p)], [], mkH E ro) Q = _
      rw [lp_X2_givenAhead_4 s_E, if_neg (nI_nlt (Nat.le_refl _) (by omega))])
    p 0 0 (by omega) trivial
/-- all the minutes -/
def mi (t : Th) : Nat := it (fun i a => a + t.T i) t.n 0 0
theorem x_X2_minutes (s_E : oE E) (ok : tOK t) (hC : tC t ro) : wX (d + 2) 39 [.ref 11] (mkH E ro) Q = Q (some (.int (nI (mi t)))) (mkH E ro) := by
  have hn := ok.n
  refine (le_X2_minutes s_E).trans ?_
  exact loop_it (P := fun i a => wG (d + 1) 39 (4, [.ref 11, .int (nI a), .int (nI i)], [], mkH E ro) Q) (R := fun a => Q (some (.int (nI a))) (mkH E ro)) (I := fun _ _ => True) (n := t.n)
    (fun i a hi _ => by
      show wG (d + 1) 39 (4, [.ref 11, .int (nI a), .int (nI i)], [], mkH E ro) Q = _
      rw [lp_X2_minutes_4 s_E, hC.n, if_pos (nI_lt hi (by omega)), sc_at (by omega), hC.T i hi, nI_add, ← nI_succ])
    (fun _ _ _ _ => trivial)
    (fun a _ => by
      show wG (d + 1) 39 (4, [.ref 11, .int (nI a), .int (nI t.n)], [], mkH E ro) Q = _
      rw [lp_X2_minutes_4 s_E, hC.n, if_neg (nI_nlt (Nat.le_refl _) (by omega))])
    t.n 0 0 (by omega) trivial
end TT
section TT2
variable {d : Nat} {E : pEv} {ro : Nat → Nat → Int32} {Q : Option Value → pH → Prop} {t : Th}
/-- whether one with so many causes, of which k come, comes of them -/
def cO (m c k ki : Nat) : Nat :=
  if ki = 0 then (if k = bc c then 1 else 0) else
  if ki = 1 then (if k < 1 then 0 else 1) else
  if ki = 2 then k % 2 else
  if ki = 3 then (if k < bc c then 1 else 0) else
  if ki = 4 then (if k < 1 + m % 3 then 0 else 1) else
  if ki = 5 then (if k % 2 = m % 2 then 0 else 1) else
  if 4 < m then 1 else if k < bc c then 1 else 0
theorem cO_t {r : Nat} {m c k ki : Nat} (h2 : ro r 2 = nI m) (h3 : ro r 3 = nI c) (hm : m < 10) (hc : c < 128) (hk : k ≤ 7) (hi : ki < 7) : f_X5_comesOf ro r (nI k) (nI ki) = nI (cO m c k ki) := by
  have key : ∀ b, b ≤ 7 → ∀ m, m < 10 → ∀ k, k ≤ 7 → ∀ ki, ki < 7 → (if nI ki = 0 then (if nI k = nI b then (1 : Int32) else 0) else (if nI ki = 1 then (if nI k < 1 then 0 else 1) else (if nI ki = 2 then (if (nI k - nI k / 2 * 2) = 1 then 1 else 0) else (if nI ki = 3 then (if nI k < nI b then 1 else 0) else (if nI ki = 4 then (if nI k < (1 + (nI m - nI m / 3 * 3)) then 0 else 1) else (if nI ki = 5 then (if (nI k - nI k / 2 * 2) = 1 then (if (nI m - nI m / 2 * 2) = 1 then 0 else 1) else (if (nI m - nI m / 2 * 2) = 1 then 1 else 0)) else (if 4 < nI m then 1 else (if nI k < nI b then 1 else 0)))))))) = nI (if ki = 0 then (if k = b then 1 else 0) else
  if ki = 1 then (if k < 1 then 0 else 1) else
  if ki = 2 then k % 2 else
  if ki = 3 then (if k < b then 1 else 0) else
  if ki = 4 then (if k < 1 + m % 3 then 0 else 1) else
  if ki = 5 then (if k % 2 = m % 2 then 0 else 1) else
  if 4 < m then 1 else if k < b then 1 else 0) := by decide +kernel
  unfold f_X5_comesOf cO
  simp only [h2, h3, nI_bc hc]
  exact key (bc c) (bc_le c) m hm k hk ki hi
/-- what comes by these wills, were one scene (none: a number beyond) of another kind -/
def ocf (t : Th) (w ot ok : Nat) (i a : Nat) : Nat := a ||| (if t.C i = 0 then bt w i else cO (t.M i) (t.C i) (bc (t.C i &&& a)) (if i = ot then ok else t.K i)) <<< i
def oc (t : Th) (w ot ok : Nat) : Nat := it (ocf t w ot ok) t.n 0 0
theorem cO_le {m c k ki : Nat} : cO m c k ki ≤ 1 := by
  unfold cO
  (repeat' split) <;> omega
theorem bt_le {a i : Nat} : bt a i ≤ 1 := by unfold bt; omega
theorem ocf_lt {w ot ok i a : Nat} (ha : a < 2 ^ i) : ocf t w ot ok i a < 2 ^ (i + 1) := by
  unfold ocf
  have h1 : (if t.C i = 0 then bt w i else cO (t.M i) (t.C i) (bc (t.C i &&& a)) (if i = ot then ok else t.K i)) ≤ 1 := by
    split
    · exact bt_le
    · exact cO_le
  refine Nat.or_lt_two_pow (by rw [Nat.pow_succ]; omega) ?_
  rw [Nat.shiftLeft_eq, Nat.pow_succ]
  calc _ ≤ 1 * 2 ^ i := Nat.mul_le_mul_right _ h1
    _ < 2 ^ i * 2 := by have := Nat.two_pow_pos i; omega
theorem oc_ltk {w ot ok : Nat} {k : Nat} : it (ocf t w ot ok) k 0 0 < 2 ^ k := it_inv (n := k) (J := fun k b => b < 2 ^ k) (fun _ _ _ h => ocf_lt h) (by decide) k (Nat.le_refl _)
end TT2
section TT3
variable {d : Nat} {E : pEv} {ro : Nat → Nat → Int32} {Q : Option Value → pH → Prop} {t : Th}
theorem oS11 {i : Nat} (h : i < 7) : oScene (13 + i) := (oP11.2.2.2.2.2.2.2.2.2.2.1 i h).2
theorem p27 {i : Nat} (h : i < 7) : 2 ^ i ≤ 64 := by
  have : ∀ i, i < 7 → 2 ^ i ≤ 64 := by decide
  exact this i h
theorem bc_0 {a : Nat} (h : bc a = 0) (ha : a < 128) : a = 0 := by
  have : ∀ a, a < 128 → bc a = 0 → a = 0 := by decide +kernel
  exact this a ha h
theorem tr_n {k : Nat} (h : k ≤ 1) : f_X9_truth (nI k) = nI k := by
  have : ∀ k, k ≤ 1 → f_X9_truth (nI k) = nI k := by decide
  exact this k h
theorem x_X2_outcome (s_E : oE E) (ok : tOK t) (hC : tC t ro) {w ot ki : Nat} {o : Int32} (hw : w < 128) (ho : ∀ i, i < 7 → (nI i = o ↔ i = ot)) (hk : ki < 7) : wX (d + 3) 27 [.ref 11, .int (nI w), .int o, .int (nI ki)] (mkH E ro) Q = Q (some (.int (nI (oc t w ot ki)))) (mkH E ro) := by
  have hn := ok.n
  refine (le_X2_outcome s_E).trans ?_
  have key : ∀ k i a v6 v7, i + k = t.n → a < 2 ^ i → wG (d + 2) 27 (6, [.ref 11, .int (nI w), .int o, .int (nI ki), .int (nI a), .int (nI i), v6, v7], [], mkH E ro) Q = Q (some (.int (nI (it (ocf t w ot ki) k i a)))) (mkH E ro) := by
    intro k
    induction k with
    | zero =>
      intro i a v6 v7 hi ha
      rw [lp_X2_outcome_6 s_E, hC.n, if_neg (nI_nlt (by omega) (by omega))]
      rfl
    | succ k ih =>
      intro i a v6 v7 hi ha
      have h7 : i < 7 := by omega
      have h2 := p27 h7
      have hc := ok.C i (by omega)
      have hm := ok.M i (by omega)
      have hK := ok.K i (by omega)
      have had : t.C i &&& a < 128 := Nat.lt_of_le_of_lt Nat.and_le_right (by omega)
      rw [lp_X2_outcome_6 s_E, hC.n, if_pos (nI_lt (by omega) (by omega)), sh31 (by omega), sc_at h7, hC.C i (by omega), hC.K i (by omega), nI_bt hw h7, ← nI_succ, ← nI_and, nI_bc had]
      rw [cO_t (hC.M i (by omega)) (hC.C i (by omega)) hm (by omega) (bc_le _) hK, cO_t (hC.M i (by omega)) (hC.C i (by omega)) hm (by omega) (bc_le _) hk]
      rw [tr_n cO_le, tr_n cO_le, show f_X9_truth 1 = nI 1 from by decide, show f_X9_truth 0 = nI 0 from by decide]
      simp only [nI_shl (show i < 32 from by omega), ← nI_or]
      have st : ∀ x, x ≤ 1 → ∀ v6 v7, (if t.C i = 0 then bt w i else cO (t.M i) (t.C i) (bc (t.C i &&& a)) (if i = ot then ki else t.K i)) = x → wG (d + 2) 27 (6, [.ref 11, .int (nI w), .int o, .int (nI ki), .int (nI (a ||| x <<< i)), .int (nI (i + 1)), v6, v7], [], mkH E ro) Q = Q (some (.int (nI (it (ocf t w ot ki) (k + 1) i a)))) (mkH E ro) := by
        intro x hx v6 v7 he
        have e : ocf t w ot ki i a = a ||| x <<< i := by unfold ocf; rw [he]
        show _ = Q (some (.int (nI (it (ocf t w ot ki) k (i + 1) (ocf t w ot ki i a))))) (mkH E ro)
        have hl := ocf_lt (t := t) (w := w) (ot := ot) (ok := ki) ha
        rw [e] at hl ⊢
        exact ih (i + 1) _ v6 v7 (by omega) hl
      by_cases h0 : t.C i = 0
      · rw [h0, if_pos nI_0]
        rw [if_pos h0] at st
        by_cases hb : bt w i = 1
        · rw [hb, if_pos (show nI 1 = 1 from rfl)]
          exact st 1 (by omega) _ _ hb
        · have hb0 : bt w i = 0 := by have := @bt_le w i; omega
          rw [hb0, if_neg (by decide)]
          exact st 0 (by omega) _ _ hb0
      · rw [if_neg (nI_ne0 (by omega) (by omega))]
        rw [if_neg h0] at st
        by_cases hq : i = ot
        · rw [if_pos ((ho i h7).mpr hq)]
          rw [if_pos hq] at st
          exact st _ cO_le _ _ rfl
        · rw [if_neg (fun h => hq ((ho i h7).mp h))]
          rw [if_neg hq] at st
          exact st _ cO_le _ _ rfl
  exact key t.n 0 0 _ _ (by omega) (by decide)
end TT3
