/-! AN ABSTRACT MACHINE over numbered cells: what the program's data does, as a function.
Cells 0, 1, 2: the texts "", clm, ghr; 3, 4, 5: their bytes; 6, 7, 8: ABOVE, WAYS, BODIES; 9: the script; from 10 on what is made. -/
abbrev pSh : Type := Nat ⊕ (Nat × Nat)
/-- how many cells and slots there are, their shapes, what they hold -/
abbrev pH : Type := (Nat × Nat) × (Nat → pSh) × (Nat → Nat → Option Nat) × (Nat → Nat → Int32)
abbrev pF : Type := Nat × List Value × List Value × pH
abbrev pR : Type := pF ⊕ (Option Value × pH)
def nX : Nat := 10
def uI (f : Nat → Nat → Int32) (a k : Nat) (v : Int32) : Nat → Nat → Int32 := va_up f a (upd (f a) k v)
def uR (f : Nat → Nat → Option Nat) (a k : Nat) (v : Option Nat) : Nat → Nat → Option Nat := va_up f a (va_up (f a) k v)
def pAl (h : pH) (s : pSh) (sl : Nat) : pH := ((h.1.1 + 1, h.1.2 + sl), va_up h.2.1 h.1.1 s, va_up h.2.2.1 h.1.1 (fun _ => none), va_up h.2.2.2 h.1.1 (fun _ => 0))
def fv (h : pH) (a ci k : Nat) : Value := if (cKd ci).getD k 0 = 2 then va_rf (h.2.2.1 a k) else .int (h.2.2.2 a k)
def swt (x : Int32) : List (Int × Nat) → Nat → Nat
  | [], d => d
  | (a, t) :: l, d => if x = Int32.ofInt a then t else swt x l d
def brc (c : ClassFile.Cond) (x y : Int32) (t f : Nat) : Nat := match c with
  | .eq => if x = y then t else f
  | .ne => if x = y then f else t
  | .lt => if x < y then t else f
  | .ge => if x < y then f else t
  | .gt => if y < x then t else f
  | .le => if y < x then f else t
/-- the places behind a long's first word -/
def lgP : Nat → List Nat → List Nat
  | _, [] => []
  | j, t :: l => if t = 1 then (j + 1) :: lgP (j + 2) l else lgP (j + 1) l
def nLg (k i : Nat) : Bool := !((lgP 0 (mSig k)).contains i)
/-- a call of method m: what it takes lies on the stack -/
def doC (cf : Nat → List Value → pH → Option (Option Value × pH)) (m pc : Nat) (L st : List Value) (h : pH) : Option pR :=
  if st.length < (mSig m).length ∨ 8 < ((st.drop (mSig m).length).map fun v => v.category).sum then none else
  match cf m (st.take (mSig m).length).reverse h with
  | some (v, h') => some (.inl (pc + 3, L, v.toList ++ st.drop (mSig m).length, h'))
  | none => none
def isO (m : Nat) (as : List Value) (h : pH) : Bool := match as with
  | .ref b :: _ => decide (h.2.1 b = .inl (mOwn m))
  | _ => false
def stp (cf : Nat → List Value → pH → Option (Option Value × pH)) (k pc : Nat) (e : pE) (L st : List Value) (h : pH) : Option pR :=
  match e.1 with
  | .iconst _ => some (.inl (pc + 1, L, .int (Int32.ofInt e.2.1) :: st, h))
  | .bipush _ => some (.inl (pc + 2, L, .int (Int32.ofInt e.2.1) :: st, h))
  | .sipush _ => some (.inl (pc + 3, L, .int (Int32.ofInt e.2.1) :: st, h))
  | .lconst c => some (.inl (pc + 1, L, .long (Int64.ofNat (c : Nat)) :: st, h))
  | .ldc _ => (match e.2.2 with
    | [] => some (.inl (pc + 2, L, .int (Int32.ofInt e.2.1) :: st, h))
    | _ => some (.inl (pc + 2, L, .ref e.2.1.toNat :: st, h)))
  | .ldc_w _ => some (.inl (pc + 3, L, .int (Int32.ofInt e.2.1) :: st, h))
  | .ldc2_w _ => some (.inl (pc + 3, L, .long (Int64.ofInt e.2.1) :: st, h))
  | .iload i => (match L[i]? with
    | some (.int x) => some (.inl (pc + 2, L, .int x :: st, h))
    | _ => none)
  | .iload_n i => (match L[(i : Nat)]? with
    | some (.int x) => some (.inl (pc + 1, L, .int x :: st, h))
    | _ => none)
  | .aload i => (match L[i]? with
    | some (.ref x) => some (.inl (pc + 2, L, .ref x :: st, h))
    | _ => none)
  | .aload_n i => (match L[(i : Nat)]? with
    | some (.ref x) => some (.inl (pc + 1, L, .ref x :: st, h))
    | _ => none)
  | .lload i => (match L[i]? with
    | some (.long x) => some (.inl (pc + 2, L, .long x :: st, h))
    | _ => none)
  | .lload_n i => (match L[(i : Nat)]? with
    | some (.long x) => some (.inl (pc + 1, L, .long x :: st, h))
    | _ => none)
  | .istore i => (match st with
    | .int x :: r => if i < L.length ∧ nLg k i = true then some (.inl (pc + 2, L.set i (.int x), r, h)) else none
    | _ => none)
  | .istore_n i => (match st with
    | .int x :: r => if (i : Nat) < L.length ∧ nLg k (i : Nat) = true then some (.inl (pc + 1, L.set (i : Nat) (.int x), r, h)) else none
    | _ => none)
  | .astore i => (match st with
    | .ref x :: r => if i < L.length ∧ nLg k i = true then some (.inl (pc + 2, L.set i (.ref x), r, h)) else none
    | _ => none)
  | .astore_n i => (match st with
    | .ref x :: r => if (i : Nat) < L.length ∧ nLg k (i : Nat) = true then some (.inl (pc + 1, L.set (i : Nat) (.ref x), r, h)) else none
    | _ => none)
  | .iinc i n => (match L[i]? with
    | some (.int x) => if nLg k i = true then some (.inl (pc + 3, L.set i (.int (x + Int32.ofInt n)), st, h)) else none
    | _ => none)
  | .iadd => (match st with | .int y :: .int x :: r => some (.inl (pc + 1, L, .int (x + y) :: r, h)) | _ => none)
  | .isub => (match st with | .int y :: .int x :: r => some (.inl (pc + 1, L, .int (x - y) :: r, h)) | _ => none)
  | .imul => (match st with | .int y :: .int x :: r => some (.inl (pc + 1, L, .int (x * y) :: r, h)) | _ => none)
  | .iand => (match st with | .int y :: .int x :: r => some (.inl (pc + 1, L, .int (x &&& y) :: r, h)) | _ => none)
  | .ior => (match st with | .int y :: .int x :: r => some (.inl (pc + 1, L, .int (x ||| y) :: r, h)) | _ => none)
  | .ixor => (match st with | .int y :: .int x :: r => some (.inl (pc + 1, L, .int (x ^^^ y) :: r, h)) | _ => none)
  | .idiv => (match st with | .int y :: .int x :: r => if y = 0 then none else some (.inl (pc + 1, L, .int (x / y) :: r, h)) | _ => none)
  | .irem => (match st with | .int y :: .int x :: r => if y = 0 then none else some (.inl (pc + 1, L, .int (x - x / y * y) :: r, h)) | _ => none)
  | .ineg => (match st with | .int x :: r => some (.inl (pc + 1, L, .int (-x) :: r, h)) | _ => none)
  | .ishl => (match st with | .int y :: .int x :: r => some (.inl (pc + 1, L, .int (x <<< (y &&& 31)) :: r, h)) | _ => none)
  | .ishr => (match st with | .int y :: .int x :: r => some (.inl (pc + 1, L, .int (x >>> (y &&& 31)) :: r, h)) | _ => none)
  | .iushr => (match st with | .int y :: .int x :: r => some (.inl (pc + 1, L, .int (x.toUInt32 >>> (y.toUInt32 &&& Int32.toUInt32 31)).toInt32 :: r, h)) | _ => none)
  | .i2l => (match st with | .int x :: r => some (.inl (pc + 1, L, .long x.toInt64 :: r, h)) | _ => none)
  | .l2i => (match st with | .long x :: r => some (.inl (pc + 1, L, .int x.toInt32 :: r, h)) | _ => none)
  | .i2b => (match st with | .int x :: r => some (.inl (pc + 1, L, .int x.toInt8.toInt32 :: r, h)) | _ => none)
  | .i2s => (match st with | .int x :: r => some (.inl (pc + 1, L, .int x.toInt16.toInt32 :: r, h)) | _ => none)
  | .i2c => (match st with | .int x :: r => some (.inl (pc + 1, L, .int (x.toUInt32 % 65536).toInt32 :: r, h)) | _ => none)
  | .land => (match st with | .long y :: .long x :: r => some (.inl (pc + 1, L, .long (x &&& y) :: r, h)) | _ => none)
  | .lor => (match st with | .long y :: .long x :: r => some (.inl (pc + 1, L, .long (x ||| y) :: r, h)) | _ => none)
  | .lshl => (match st with | .int y :: .long x :: r => some (.inl (pc + 1, L, .long (x <<< (y.toInt64 &&& 63)) :: r, h)) | _ => none)
  | .lshr => (match st with | .int y :: .long x :: r => some (.inl (pc + 1, L, .long (x >>> (y.toInt64 &&& 63)) :: r, h)) | _ => none)
  | .lushr => (match st with | .int y :: .long x :: r => some (.inl (pc + 1, L, .long (x.toUInt64 >>> (y.toInt64.toUInt64 &&& Int64.toUInt64 63)).toInt64 :: r, h)) | _ => none)
  | .lcmp => (match st with | .long y :: .long x :: r => some (.inl (pc + 1, L, .int (lg_cmp x y) :: r, h)) | _ => none)
  | .dup => (match st with
    | .int x :: r => some (.inl (pc + 1, L, .int x :: .int x :: r, h))
    | .ref x :: r => some (.inl (pc + 1, L, .ref x :: .ref x :: r, h))
    | _ => none)
  | .dup2 => (match st with
    | .int y :: .ref x :: r => some (.inl (pc + 1, L, .int y :: .ref x :: .int y :: .ref x :: r, h))
    | _ => none)
  | .pop => (match st with
    | .int _ :: r => some (.inl (pc + 1, L, r, h))
    | _ => none)
  | .goto _ => some (.inl (e.2.1.toNat, L, st, h))
  | .if_icmp c _ => (match st with | .int y :: .int x :: r => some (.inl (brc c x y e.2.1.toNat (pc + 3), L, r, h)) | _ => none)
  | .ifCond c _ => (match st with | .int x :: r => some (.inl (brc c x 0 e.2.1.toNat (pc + 3), L, r, h)) | _ => none)
  | .tableswitch _ _ _ _ => (match st with | .int x :: r => some (.inl (swt x e.2.2 e.2.1.toNat, L, r, h)) | _ => none)
  | .lookupswitch _ _ => (match st with | .int x :: r => some (.inl (swt x e.2.2 e.2.1.toNat, L, r, h)) | _ => none)
  | .getfield _ => (match st with
    | .ref a :: r => if h.2.1 a = .inl (e.2.1.toNat / 32) ∧ e.2.1.toNat % 32 < cNf (e.2.1.toNat / 32) then some (.inl (pc + 3, L, fv h a (e.2.1.toNat / 32) (e.2.1.toNat % 32) :: r, h)) else none
    | _ => none)
  | .putfield _ => (match st with
    | .int v :: .ref a :: r => if h.2.1 a = .inl (e.2.1.toNat / 32) ∧ e.2.1.toNat % 32 < cNf (e.2.1.toNat / 32) ∧ nX ≤ a ∧ ((cKd (e.2.1.toNat / 32)).getD (e.2.1.toNat % 32) 0 = 0 ∨ ((cKd (e.2.1.toNat / 32)).getD (e.2.1.toNat % 32) 0 = 1 ∧ (v = 0 ∨ v = 1))) then some (.inl (pc + 3, L, r, (h.1, h.2.1, h.2.2.1, uI h.2.2.2 a (e.2.1.toNat % 32) v))) else none
    | .ref v :: .ref a :: r => if h.2.1 a = .inl (e.2.1.toNat / 32) ∧ e.2.1.toNat % 32 < cNf (e.2.1.toNat / 32) ∧ nX ≤ a ∧ (cKd (e.2.1.toNat / 32)).getD (e.2.1.toNat % 32) 0 = 2 then some (.inl (pc + 3, L, r, (h.1, h.2.1, uR h.2.2.1 a (e.2.1.toNat % 32) (some v), h.2.2.2))) else none
    | _ => none)
  | .getstatic _ => some (.inl (pc + 3, L, (if e.2.1.toNat < 3 then .ref (6 + e.2.1.toNat) else .int 1) :: st, h))
  | .arraylength => (match st with
    | .ref a :: r => (match h.2.1 a with
      | .inr (t, n) => if t < 4 then some (.inl (pc + 1, L, .int (Int32.ofNat n) :: r, h)) else none
      | _ => none)
    | _ => none)
  | .iaload => (match st with
    | .int j :: .ref a :: r => (match h.2.1 a with
      | .inr (0, n) => if ¬ j < 0 ∧ j.toNatClampNeg < n then some (.inl (pc + 1, L, .int (h.2.2.2 a j.toNatClampNeg) :: r, h)) else none
      | _ => none)
    | _ => none)
  | .baload => (match st with
    | .int j :: .ref a :: r => (match h.2.1 a with
      | .inr (1, n) => if ¬ j < 0 ∧ j.toNatClampNeg < n then some (.inl (pc + 1, L, .int (h.2.2.2 a j.toNatClampNeg) :: r, h)) else none
      | _ => none)
    | _ => none)
  | .aaload => (match st with
    | .int j :: .ref a :: r => (match h.2.1 a with
      | .inr (t, n) => if (t = 2 ∨ t = 3) ∧ nX ≤ a ∧ ¬ j < 0 ∧ j.toNatClampNeg < n then some (.inl (pc + 1, L, va_rf (h.2.2.1 a j.toNatClampNeg) :: r, h)) else none
      | _ => none)
    | _ => none)
  | .iastore => (match st with
    | .int v :: .int j :: .ref a :: r => (match h.2.1 a with
      | .inr (0, n) => if nX ≤ a ∧ ¬ j < 0 ∧ j.toNatClampNeg < n then some (.inl (pc + 1, L, r, (h.1, h.2.1, h.2.2.1, uI h.2.2.2 a j.toNatClampNeg v))) else none
      | _ => none)
    | _ => none)
  | .aastore => (match st with
    | .ref v :: .int j :: .ref a :: r => (match h.2.1 a with
      | .inr (t, n) => if ((t = 2 ∧ h.2.1 v = .inl 5) ∨ (t = 3 ∧ h.2.1 v = .inl 6)) ∧ nX ≤ a ∧ nX ≤ v ∧ ¬ j < 0 ∧ j.toNatClampNeg < n then some (.inl (pc + 1, L, r, (h.1, h.2.1, uR h.2.2.1 a j.toNatClampNeg (some v), h.2.2.2))) else none
      | _ => none)
    | _ => none)
  | .new _ => some (.inl (pc + 3, L, .ref h.1.1 :: st, pAl h (.inl e.2.1.toNat) (cNf e.2.1.toNat)))
  | .newarray _ => (match st with
    | .int n :: r => if ¬ n < 0 ∧ n.toNatClampNeg ≤ 10000 then some (.inl (pc + 2, L, .ref h.1.1 :: r, pAl h (.inr (0, n.toNatClampNeg)) n.toNatClampNeg)) else none
    | _ => none)
  | .anewarray _ => (match st with
    | .int n :: r => if ¬ n < 0 ∧ n.toNatClampNeg ≤ 10000 then some (.inl (pc + 3, L, .ref h.1.1 :: r, pAl h (.inr (e.2.1.toNat, n.toNatClampNeg)) n.toNatClampNeg)) else none
    | _ => none)
  | .invokevirtual _ => if 0 ≤ e.2.1 ∧ isO e.2.1.toNat (st.take (mSig e.2.1.toNat).length).reverse h = true then doC cf e.2.1.toNat pc L st h else none
  | .invokestatic _ => if 0 ≤ e.2.1 then doC cf e.2.1.toNat pc L st h else
    if e.2.1 = -2 then (match st with
      | .int n :: .int dp :: .ref b :: .int sp :: .ref a :: r => (match h.2.1 a, h.2.1 b with
        | .inr (0, na), .inr (0, nb) => if nX ≤ a ∧ nX ≤ b ∧ ¬ sp < 0 ∧ ¬ dp < 0 ∧ ¬ n < 0 ∧ sp.toNatClampNeg + n.toNatClampNeg ≤ na ∧ dp.toNatClampNeg + n.toNatClampNeg ≤ nb ∧ r.length ≤ 4 then some (.inl (pc + 3, L, r, (h.1, h.2.1, h.2.2.1, va_up h.2.2.2 b (va_cpy (h.2.2.2 a) (h.2.2.2 b) sp.toNatClampNeg dp.toNatClampNeg n.toNatClampNeg)))) else none
        | _, _ => none)
      | _ => none) else
    if e.2.1 = -3 then (match st with | .int y :: .int x :: r => if r.length ≤ 4 then some (.inl (pc + 3, L, .int (if x < y then y else x) :: r, h)) else none | _ => none) else
    if e.2.1 = -4 then (match st with | .int y :: .int x :: r => if r.length ≤ 4 then some (.inl (pc + 3, L, .int (if y < x then y else x) :: r, h)) else none | _ => none) else none
  | .invokespecial _ => if 0 ≤ e.2.1 then doC cf e.2.1.toNat pc L st h else
    if e.2.1 = -1 then (match st with | .ref _ :: r => if r.length ≤ 4 then some (.inl (pc + 3, L, r, h)) else none | _ => none) else none
  | .ireturn => (match st, mRet k with
    | [.int v], some ty => if narrow ty (.int v) = .int v then some (.inr (some (.int v), h)) else none
    | _, _ => none)
  | .areturn => (match st, mRet k with
    | [.ref a], some (.object _) => some (.inr (some (.ref a), h))
    | _, _ => none)
  | .return_ => (match st, mRet k with
    | [], none => some (.inr (none, h))
    | _, _ => none)
  | _ => none
def okA : List Nat → List Value → Bool
  | [], [] => true
  | 0 :: s, .int _ :: l => okA s l
  | 1 :: s, .long _ :: l => okA s l
  | 2 :: s, .ref _ :: l => okA s l
  | _, _ => false
def inA (args : List Value) : List Value := args.flatMap (fun v => match v with | .long x => [.long x, .retAddr 0] | v => [v])
def inL (m : Nat) (args : List Value) : List Value := inA args ++ List.replicate (mMax m - (inA args).length) (.retAddr 0)
def run (cf : Nat → List Value → pH → Option (Option Value × pH)) (k : Nat) : Nat → pF → Option (Option Value × pH)
  | 0, _ => none
  | n + 1, c => match pEnt k c.1 with
    | none => none
    | some e => match stp cf k c.1 e c.2.1 c.2.2.1 c.2.2.2 with
      | none => none
      | some (.inl c') => run cf k n c'
      | some (.inr r) => some r
def evM : Nat → Nat → Nat → List Value → pH → Option (Option Value × pH)
  | 0, _, _, _, _ => none
  | d + 1, n, m, args, h => if okA (mSig m) args = true ∧ m < 258 then run (evM d n) m n (0, inL m args, [], h) else none
