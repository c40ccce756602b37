/-! THE TEXTS, as both sides read them: b the bytes, n how many, u the use; a reading gives the fault, or where it stopped, the code and what it gives for three names -/
def Rd : Type := Nat → Nat ⊕ (Nat × List Int32 × Int32)
def hr (b : Nat → Nat) (n p : Nat) : Nat := if p < n then b p else 999
def lev (c : Nat) : Nat := if c = 124 then 0 else if c = 38 then 1 else if c = 60 then 2 else if c = 61 then 2 else if c = 62 then 2 else if c = 43 then 3 else if c = 45 then 3 else if c = 42 then 4 else if c = 47 then 4 else if c = 37 then 4 else 9
def nm (u c : Nat) : Nat := if u = 0 then (if c = 99 then 0 else if c = 108 then 1 else if c = 109 then 2 else 9) else (if c = 103 then 0 else if c = 104 then 1 else if c = 114 then 2 else 9)
def dg (c : Nat) : Bool := decide (48 ≤ c) && decide (c ≤ 57)
section RD
variable (b : Nat → Nat) (n u : Nat) (x y z : Int32)
/-- digits, k more at most: where they end, and the number -/
def nb : Nat → Nat → Nat → Nat × Nat
  | 0, p, v => (p, v)
  | k + 1, p, v => if dg (hr b n p) then nb k (p + 1) (10 * v + (hr b n p - 48)) else (p, v)
/-- signs of one level: k more at most -/
def lpR (l : Nat) (s : Rd) : Nat → Nat → List Int32 → Int32 → Nat ⊕ (Nat × List Int32 × Int32)
  | 0, p, cd, v => .inr (p, cd, v)
  | k + 1, p, cd, v => if lev (hr b n p) = l then
      (match s (p + 1) with
      | .inl f => .inl f
      | .inr (q, c2, w) => lpR l s k q (cd ++ c2 ++ [-nI (hr b n p)]) (f_X1_joined (nI (hr b n p)) v w))
    else .inr (p, cd, v)
def lvR (l k : Nat) (s : Rd) : Rd := fun p => match s p with
  | .inl f => .inl f
  | .inr (q, cd, v) => lpR b n l s k q cd v
def ttR (s : Rd) : Rd := lvR b n 0 50 (lvR b n 1 50 (lvR b n 2 1 (lvR b n 3 50 (lvR b n 4 50 s))))
def naR (i : Nat) : Int32 := if i = 0 then x else if i = 1 then y else z
/-- the innermost, r brackets and nots more at most -/
def inR : Nat → Rd
  | 0, p => if dg (hr b n p) then .inr ((nb b n 4 p 0).1, [nI (nb b n 4 p 0).2], nI (nb b n 4 p 0).2) else if nm u (hr b n p) < 3 then .inr (p + 1, [-1 - nI (nm u (hr b n p))], naR x y z (nm u (hr b n p))) else .inl p
  | r + 1, p => if dg (hr b n p) then .inr ((nb b n 4 p 0).1, [nI (nb b n 4 p 0).2], nI (nb b n 4 p 0).2) else if nm u (hr b n p) < 3 then .inr (p + 1, [-1 - nI (nm u (hr b n p))], naR x y z (nm u (hr b n p))) else
    if hr b n p = 33 then (match inR r (p + 1) with
      | .inl f => .inl f
      | .inr (q, cd, v) => .inr (q, cd ++ [-33], if v = 0 then 1 else 0))
    else if hr b n p = 40 then (match ttR b n (inR r) (p + 1) with
      | .inl f => .inl f
      | .inr (q, cd, v) => if hr b n q = 41 then .inr (q + 1, cd, v) else .inl q)
    else .inl p
/-- a whole text -/
def txR : Nat ⊕ (List Int32 × Int32) := match ttR b n (inR b n u x y z 5) 0 with
  | .inl f => .inl f
  | .inr (q, cd, v) => if q < n then .inl q else .inr (cd, v)
end RD
