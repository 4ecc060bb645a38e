/-! THE SEMANTICS IN WHICH EVERYTHING IS SAID: whole numbers, a memory of cells by number, one function for an instruction -/
abbrev jV : Type := Int ⊕ (Int ⊕ Nat)
abbrev vI (z : Int) : jV := Sum.inl z
abbrev vL (z : Int) : jV := Sum.inr (Sum.inl z)
abbrev vR (r : Nat) : jV := Sum.inr (Sum.inr r)
abbrev jLs : Type := List (Option jV)
/-- next reference, slots used, kinds (tag, length), ints, longs, references (0: null) -/
abbrev jM : Type := Nat × Nat × (Nat → Nat × Nat) × (Nat → Nat → Int) × (Nat → Nat → Int) × (Nat → Nat → Nat)
/-- own class, name, code, locals, answer's type -/
abbrev jMe : Type := Nat × MethodName × ByteArray × Nat × Option FieldType
abbrev jFr : Type := Nat × jLs × List jV
def mx (M : jM) : Nat := M.1
def ms (M : jM) : Nat := M.2.1
def kd (M : jM) : Nat → Nat × Nat := M.2.2.1
def iv (M : jM) : Nat → Nat → Int := M.2.2.2.1
def lg (M : jM) : Nat → Nat → Int := M.2.2.2.2.1
def rv (M : jM) : Nat → Nat → Nat := M.2.2.2.2.2
def up2 {α : Type} (f : Nat → Nat → α) (r i : Nat) (v : α) : Nat → Nat → α := fun r' i' => if r' = r ∧ i' = i then v else f r' i'
def si (M : jM) (r i : Nat) (z : Int) : jM := (M.1, M.2.1, M.2.2.1, up2 M.2.2.2.1 r i z, M.2.2.2.2.1, M.2.2.2.2.2)
def sl (M : jM) (r i : Nat) (z : Int) : jM := (M.1, M.2.1, M.2.2.1, M.2.2.2.1, up2 M.2.2.2.2.1 r i z, M.2.2.2.2.2)
def sr (M : jM) (r i : Nat) (z : Nat) : jM := (M.1, M.2.1, M.2.2.1, M.2.2.2.1, M.2.2.2.2.1, up2 M.2.2.2.2.2 r i z)
def nw (M : jM) (k : Nat × Nat) (n : Nat) : jM :=
  (M.1 + 1, M.2.1 + n, (fun r => if r = M.1 then k else M.2.2.1 r), (fun r i => if r = M.1 then 0 else M.2.2.2.1 r i), (fun r i => if r = M.1 then 0 else M.2.2.2.2.1 r i), (fun r i => if r = M.1 then 0 else M.2.2.2.2.2 r i))
-- arithmetic
def w32 (z : Int) : Int := (z + 2147483648) % 4294967296 - 2147483648
def w64 (z : Int) : Int := (z + 9223372036854775808) % 18446744073709551616 - 9223372036854775808
def jand (a b : Int) : Int := (Int32.ofInt a &&& Int32.ofInt b).toInt
def jor (a b : Int) : Int := (Int32.ofInt a ||| Int32.ofInt b).toInt
def jxor (a b : Int) : Int := (Int32.ofInt a ^^^ Int32.ofInt b).toInt
def jshl (a b : Int) : Int := (Int32.ofInt a <<< (Int32.ofInt b &&& 31)).toInt
def jshr (a b : Int) : Int := (Int32.ofInt a >>> (Int32.ofInt b &&& 31)).toInt
def jushr (a b : Int) : Int := ((Int32.ofInt a).toUInt32 >>> ((Int32.ofInt b).toUInt32 &&& Int32.toUInt32 31)).toInt32.toInt
def jdiv (a b : Int) : Int := (Int32.ofInt a / Int32.ofInt b).toInt
def jrem (a b : Int) : Int := (Int32.ofInt a - Int32.ofInt a / Int32.ofInt b * Int32.ofInt b).toInt
def jandL (a b : Int) : Int := (Int64.ofInt a &&& Int64.ofInt b).toInt
def jorL (a b : Int) : Int := (Int64.ofInt a ||| Int64.ofInt b).toInt
def jshlL (a b : Int) : Int := (Int64.ofInt a <<< ((Int32.ofInt b).toInt64 &&& 63)).toInt
def jshrL (a b : Int) : Int := (Int64.ofInt a >>> ((Int32.ofInt b).toInt64 &&& 63)).toInt
def jushrL (a b : Int) : Int := ((Int64.ofInt a).toUInt64 >>> ((Int32.ofInt b).toInt64.toUInt64 &&& Int64.toUInt64 63)).toInt64.toInt
def jdivL (a b : Int) : Int := (Int64.ofInt a / Int64.ofInt b).toInt
def jremL (a b : Int) : Int := (Int64.ofInt a - Int64.ofInt a / Int64.ofInt b * Int64.ofInt b).toInt
def jcmp (a b : Int) : Int := if a < b then -1 else if a = b then 0 else 1
def jholds : ClassFile.Cond → Int → Int → Bool
  | .eq, a, b => a == b
  | .ne, a, b => a != b
  | .lt, a, b => decide (a < b)
  | .ge, a, b => decide (b ≤ a)
  | .gt, a, b => decide (b < a)
  | .le, a, b => decide (a ≤ b)
-- locals
def jget (ls : jLs) (i : Nat) : Option jV := match ls[i]? with
  | some (some v) => some v
  | _ => none
/-- a long ahead of the place is broken by a store there -/
def jkill (ls : jLs) (i : Nat) : jLs := match i with
  | 0 => ls
  | j + 1 => match ls[j]? with
    | some (some (.inr (.inl _))) => ls.set j none
    | _ => ls
def jput1 (ls : jLs) (i : Nat) (v : jV) : jLs := (jkill ls i).set i (some v)
def jput2 (ls : jLs) (i : Nat) (v : jV) : jLs := ((jkill ls i).set i (some v)).set (i + 1) none
def jargs : List jV → jLs
  | [] => []
  | .inr (.inl z) :: t => some (vL z) :: none :: jargs t
  | v :: t => some v :: jargs t
def jentry (as : List jV) (n : Nat) : jLs := jargs as ++ List.replicate (n - (jargs as).length) none
def jcat : List jV → Nat
  | [] => 0
  | .inr (.inl _) :: t => 2 + jcat t
  | _ :: t => 1 + jcat t
-- what an instruction does: goes on; calls; answers; throws
abbrev jAct : Type := (jFr × jM) ⊕ (jMe × List jV × jFr × jM) ⊕ (Option jV × jM) ⊕ (jFr × jM)
abbrev jOn (pc : Nat) (ls : jLs) (st : List jV) (M : jM) : Option jAct := some (.inl ((pc, ls, st), M))
def jto (pc : Nat) (off : Int) : Nat := ((pc : Int) + off).toNat
def jB32 (f : Int → Int → Int) (pc : Nat) (ls : jLs) (st : List jV) (M : jM) : Option jAct := match st with
  | .inl b :: .inl a :: r => jOn (pc + 1) ls (vI (f a b) :: r) M
  | _ => none
def jB64 (f : Int → Int → Int) (pc : Nat) (ls : jLs) (st : List jV) (M : jM) : Option jAct := match st with
  | .inr (.inl b) :: .inr (.inl a) :: r => jOn (pc + 1) ls (vL (f a b) :: r) M
  | _ => none
def jS64 (f : Int → Int → Int) (pc : Nat) (ls : jLs) (st : List jV) (M : jM) : Option jAct := match st with
  | .inl b :: .inr (.inl a) :: r => jOn (pc + 1) ls (vL (f a b) :: r) M
  | _ => none
def jLdI (i len pc : Nat) (ls : jLs) (st : List jV) (M : jM) : Option jAct := match jget ls i with
  | some (.inl z) => jOn (pc + len) ls (vI z :: st) M
  | _ => none
def jLdL (i len pc : Nat) (ls : jLs) (st : List jV) (M : jM) : Option jAct := match jget ls i with
  | some (.inr (.inl z)) => jOn (pc + len) ls (vL z :: st) M
  | _ => none
def jLdR (i len pc : Nat) (ls : jLs) (st : List jV) (M : jM) : Option jAct := match jget ls i with
  | some (.inr (.inr r)) => jOn (pc + len) ls (vR r :: st) M
  | _ => none
def jStI (i len pc : Nat) (ls : jLs) (st : List jV) (M : jM) : Option jAct := match st with
  | .inl z :: r => if i < ls.length then jOn (pc + len) (jput1 ls i (vI z)) r M else none
  | _ => none
def jStL (i len pc : Nat) (ls : jLs) (st : List jV) (M : jM) : Option jAct := match st with
  | .inr (.inl z) :: r => if i + 1 < ls.length then jOn (pc + len) (jput2 ls i (vL z)) r M else none
  | _ => none
def jStR (i len pc : Nat) (ls : jLs) (st : List jV) (M : jM) : Option jAct := match st with
  | .inr (.inr z) :: r => if i < ls.length then jOn (pc + len) (jput1 ls i (vR z)) r M else none
  | _ => none
def jIdx (M : jM) (tag r : Nat) (z : Int) : Bool := decide (r ≠ 0) && decide (r < mx M) && decide ((kd M r).1 = tag) && decide (0 ≤ z) && decide (z < (kd M r).2)
