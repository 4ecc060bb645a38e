/-! one instruction, by what decode says of it; a method's run, by fuel and depth -/
noncomputable def jfin (c k : Nat) : Bool := match jcl[c]? with
  | some q => (q.2.1 k).2.2.2
  | none => true
noncomputable def jobj (M : jM) (c r : Nat) : Bool := decide (r ≠ 0) && decide (r < mx M) && decide ((kd M r).1 = c)
noncomputable def jGo (pc : Nat) (off : Int) (ls : jLs) (st : List jV) (M : jM) : Option jAct := if 0 ≤ (pc : Int) + off then jOn ((pc : Int) + off).toNat ls st M else none
noncomputable def jPush (len : Nat) (v : jV) (pc : Nat) (ls : jLs) (st : List jV) (M : jM) : Option jAct := jOn (pc + len) ls (v :: st) M
noncomputable def jInc (i : Nat) (z : Int) (pc : Nat) (ls : jLs) (st : List jV) (M : jM) : Option jAct := match jget ls i with
  | some (.inl x) => jOn (pc + 3) (jput1 ls i (vI (w32 (x + z)))) st M
  | _ => none
noncomputable def jBr (b : Bool) (off : Int) (pc : Nat) (ls : jLs) (st : List jV) (M : jM) : Option jAct := if 0 ≤ (pc : Int) + off then (if b = true then jOn ((pc : Int) + off).toNat ls st M else jOn (pc + 3) ls st M) else none
noncomputable def jIf (c : ClassFile.Cond) (off : Int) (pc : Nat) (ls : jLs) (st : List jV) (M : jM) : Option jAct := match st with
  | .inl x :: r => jBr (jholds c x 0) off pc ls r M
  | _ => none
noncomputable def jIfc (c : ClassFile.Cond) (off : Int) (pc : Nat) (ls : jLs) (st : List jV) (M : jM) : Option jAct := match st with
  | .inl y :: .inl x :: r => jBr (jholds c x y) off pc ls r M
  | _ => none
noncomputable def jNull (b : Bool) (off : Int) (pc : Nat) (ls : jLs) (st : List jV) (M : jM) : Option jAct := match st with
  | .inr (.inr q) :: r => jBr (decide (q = 0) == b) off pc ls r M
  | _ => none
noncomputable def jTab (d lo hi : Int) (os : Array Int) (pc : Nat) (ls : jLs) (st : List jV) (M : jM) : Option jAct := match st with
  | .inl x :: r => if x < lo ∨ hi < x then jGo pc d ls r M else match os[(x - lo).toNat]? with
    | some o => jGo pc o ls r M
    | none => none
  | _ => none
noncomputable def jLook (d : Int) (ps : Array (Int × Int)) (pc : Nat) (ls : jLs) (st : List jV) (M : jM) : Option jAct := match st with
  | .inl x :: r => if (ps.toList.zip (ps.toList.drop 1)).all (fun (a, next) => a.1 < next.1) = true then jGo pc (Op.lookupswitch.offset ps.toList d x) ls r M else none
  | _ => none
noncomputable def jGet (o i : Nat) (pc : Nat) (ls : jLs) (st : List jV) (M : jM) : Option jAct := match lkF o i, st with
  | some (c, k, t), .inr (.inr r) :: q => if jobj M c r = true then (match t with
    | 1 => jOn (pc + 3) ls (vL (lg M r k) :: q) M
    | 2 => jOn (pc + 3) ls (vR (rv M r k) :: q) M
    | _ => jOn (pc + 3) ls (vI (iv M r k) :: q) M) else none
  | _, _ => none
noncomputable def jPut (m : jMe) (i : Nat) (pc : Nat) (ls : jLs) (st : List jV) (M : jM) : Option jAct := match lkF m.1 i, st with
  | some (c, k, t), v :: .inr (.inr r) :: q => if jobj M c r = true ∧ (jfin c k = false ∨ (m.1 = c ∧ m.2.1.name = "<init>")) then (match t, v with
    | 0, .inl z => jOn (pc + 3) ls q (si M r k z)
    | 3, .inl z => if z = 0 ∨ z = 1 then jOn (pc + 3) ls q (si M r k z) else none
    | 1, .inr (.inl z) => jOn (pc + 3) ls q (sl M r k z)
    | 2, .inr (.inr z) => jOn (pc + 3) ls q (sr M r k z)
    | _, _ => none) else none
  | _, _ => none
noncomputable def jStat (o i : Nat) (pc : Nat) (ls : jLs) (st : List jV) (M : jM) : Option jAct := match lkS o i with
  | some r => jOn (pc + 3) ls (vR r :: st) M
  | none => none
noncomputable def jLdc (o i len : Nat) (pc : Nat) (ls : jLs) (st : List jV) (M : jM) : Option jAct := match lkK o i with
  | some z => jOn (pc + len) ls (vI z :: st) M
  | none => none
noncomputable def jLdc2 (o i : Nat) (pc : Nat) (ls : jLs) (st : List jV) (M : jM) : Option jAct := match lkL o i with
  | some z => jOn (pc + 3) ls (vL z :: st) M
  | none => none
noncomputable def jslots (c : Nat) : Nat := match jcl[c]? with
  | some q => q.2.2
  | none => 0
noncomputable def jNew (o i : Nat) (pc : Nat) (ls : jLs) (st : List jV) (M : jM) : Option jAct := match lkN o i with
  | some c => jOn (pc + 3) ls (vR (mx M) :: st) (nw M (c, 0) (jslots c))
  | none => if o = 10 ∧ i = 183 ∧ pc = 20 ∧ st.isEmpty = true then some (.inr (.inr (.inr ((pc, ls, st), M)))) else none
noncomputable def jAr (tag len pc : Nat) (ls : jLs) (st : List jV) (M : jM) : Option jAct := match st with
  | .inl z :: r => if 0 ≤ z ∧ z ≤ 65536 then jOn (pc + len) ls (vR (mx M) :: r) (nw M (tag, z.toNat) z.toNat) else none
  | _ => none
noncomputable def jNewA (t : ArrayType) (pc : Nat) (ls : jLs) (st : List jV) (M : jM) : Option jAct := match t with
  | .int => jAr 20 2 pc ls st M
  | .long => jAr 21 2 pc ls st M
  | .boolean => jAr 22 2 pc ls st M
  | _ => none
noncomputable def jNewR (o i : Nat) (pc : Nat) (ls : jLs) (st : List jV) (M : jM) : Option jAct := match lkA o i with
  | some t => jAr t 3 pc ls st M
  | none => none
noncomputable def jLen (pc : Nat) (ls : jLs) (st : List jV) (M : jM) : Option jAct := match st with
  | .inr (.inr r) :: q => if r ≠ 0 ∧ r < mx M ∧ 20 ≤ (kd M r).1 ∧ (kd M r).1 ≤ 24 then jOn (pc + 1) ls (vI ((kd M r).2 : Nat) :: q) M else none
  | _ => none
noncomputable def jLdE (tag : Nat) (pc : Nat) (ls : jLs) (st : List jV) (M : jM) : Option jAct := match st with
  | .inl i :: .inr (.inr r) :: q => if jIdx M tag r i = true then (match tag with
    | 21 => jOn (pc + 1) ls (vL (lg M r i.toNat) :: q) M
    | _ => jOn (pc + 1) ls (vI (iv M r i.toNat) :: q) M) else none
  | _ => none
noncomputable def jLdA (pc : Nat) (ls : jLs) (st : List jV) (M : jM) : Option jAct := match st with
  | .inl i :: .inr (.inr r) :: q => if jIdx M 23 r i = true ∨ jIdx M 24 r i = true then jOn (pc + 1) ls (vR (rv M r i.toNat) :: q) M else none
  | _ => none
noncomputable def jStE (tag : Nat) (pc : Nat) (ls : jLs) (st : List jV) (M : jM) : Option jAct := match st with
  | v :: .inl i :: .inr (.inr r) :: q => if jIdx M tag r i = true ∧ 6 ≤ r then (match tag, v with
    | 20, .inl z => jOn (pc + 1) ls q (si M r i.toNat z)
    | 22, .inl z => if z = 0 ∨ z = 1 then jOn (pc + 1) ls q (si M r i.toNat z) else none
    | 21, .inr (.inl z) => jOn (pc + 1) ls q (sl M r i.toNat z)
    | _, _ => none) else none
  | _ => none
noncomputable def jStA (pc : Nat) (ls : jLs) (st : List jV) (M : jM) : Option jAct := match st with
  | .inr (.inr v) :: .inl i :: .inr (.inr r) :: q => if ((jIdx M 23 r i = true ∧ jobj M 7 v = true) ∨ (jIdx M 24 r i = true ∧ jobj M 3 v = true)) ∧ 6 ≤ r ∧ 6 ≤ v then jOn (pc + 1) ls q (sr M r i.toNat v) else none
  | _ => none
noncomputable def jDup (pc : Nat) (ls : jLs) (st : List jV) (M : jM) : Option jAct := match st with
  | .inr (.inl _) :: _ => none
  | v :: q => jOn (pc + 1) ls (v :: v :: q) M
  | _ => none
noncomputable def jDup2 (pc : Nat) (ls : jLs) (st : List jV) (M : jM) : Option jAct := match st with
  | .inr (.inl z) :: q => jOn (pc + 1) ls (vL z :: vL z :: q) M
  | _ :: .inr (.inl _) :: _ => none
  | v :: u :: q => jOn (pc + 1) ls (v :: u :: v :: u :: q) M
  | _ => none
noncomputable def jPop (pc : Nat) (ls : jLs) (st : List jV) (M : jM) : Option jAct := match st with
  | .inr (.inl _) :: _ => none
  | _ :: q => jOn (pc + 1) ls q M
  | _ => none
noncomputable def jI2L (pc : Nat) (ls : jLs) (st : List jV) (M : jM) : Option jAct := match st with
  | .inl z :: q => jOn (pc + 1) ls (vL z :: q) M
  | _ => none
noncomputable def jL2I (pc : Nat) (ls : jLs) (st : List jV) (M : jM) : Option jAct := match st with
  | .inr (.inl z) :: q => jOn (pc + 1) ls (vI (w32 z) :: q) M
  | _ => none
noncomputable def jNegL (pc : Nat) (ls : jLs) (st : List jV) (M : jM) : Option jAct := match st with
  | .inr (.inl z) :: q => jOn (pc + 1) ls (vL (w64 (-z)) :: q) M
  | _ => none
noncomputable def jCmp (pc : Nat) (ls : jLs) (st : List jV) (M : jM) : Option jAct := match st with
  | .inr (.inl b) :: .inr (.inl a) :: q => jOn (pc + 1) ls (vI (jcmp a b) :: q) M
  | _ => none
noncomputable def jD32 (f : Int → Int → Int) (pc : Nat) (ls : jLs) (st : List jV) (M : jM) : Option jAct := match st with
  | .inl b :: .inl a :: r => if b ≠ 0 then jOn (pc + 1) ls (vI (f a b) :: r) M else none
  | _ => none
noncomputable def jD64 (f : Int → Int → Int) (pc : Nat) (ls : jLs) (st : List jV) (M : jM) : Option jAct := match st with
  | .inr (.inl b) :: .inr (.inl a) :: r => if b ≠ 0 then jOn (pc + 1) ls (vL (f a b) :: r) M else none
  | _ => none
/-- how many come off the stack, with the receiver -/
noncomputable def jna (k na : Nat) : Nat := match k with
  | 2 => na
  | _ => na + 1
noncomputable def jCall (k o i : Nat) (pc : Nat) (ls : jLs) (st : List jV) (M : jM) : Option jAct := match lkM o i with
  | some (k', cal, na) => if k' = k ∧ na ≤ st.length ∧ jcat (st.drop (jna k na)) ≤ 8 ∧ (jargs (st.take na).reverse).length + jna k 0 ≤ cal.2.2.2.1 then (match k, st.drop na with
    | 2, q => some (.inr (.inl (cal, (st.take na).reverse, (pc + 3, ls, q), M)))
    | 0, .inr (.inr r) :: q => if jobj M cal.1 r = true then some (.inr (.inl (cal, vR r :: (st.take na).reverse, (pc + 3, ls, q), M))) else none
    | 1, .inr (.inr r) :: q => if jobj M cal.1 r = true ∧ cal.2.1.name = "<init>" then some (.inr (.inl (cal, vR r :: (st.take na).reverse, (pc + 3, ls, q), M))) else none
    | _, _ => none) else none
  | none => none
noncomputable def jSpec (o i : Nat) (pc : Nat) (ls : jLs) (st : List jV) (M : jM) : Option jAct := if lkO o i = true then (match st with
  | .inr (.inr r) :: q => if r ≠ 0 ∧ jcat q ≤ 8 then jOn (pc + 3) ls q M else none
  | _ => none) else jCall 1 o i pc ls st M
noncomputable def mL_person : jMe := (99, yL_person, cL_person, 5, some .int)
/-- the law's own method that catches -/
noncomputable def jPers (pc : Nat) (ls : jLs) (st : List jV) (M : jM) : Option jAct := match st with
  | .inr (.inr o) :: .inl p1 :: .inl p0 :: .inr (.inr x) :: q => if jobj M 10 x = true ∧ jIdx M 21 o 0 = true ∧ 6 ≤ o ∧ 6 ≤ x ∧ jcat q ≤ 8 then some (.inr (.inl (mL_person, [vR x, vI p0, vI p1, vR o], (pc + 3, ls, q), M))) else none
  | _ => none
noncomputable def jMath (f : Nat) (pc : Nat) (ls : jLs) (st : List jV) (M : jM) : Option jAct := match f, st with
  | 0, .inl b :: .inl a :: q => if jcat q ≤ 8 then jOn (pc + 3) ls (vI (if a < b then b else a) :: q) M else none
  | 1, .inr (.inl b) :: .inr (.inl a) :: q => if jcat q ≤ 8 then jOn (pc + 3) ls (vL (if b < a then a else b) :: q) M else none
  | 2, .inl b :: .inl a :: q => if jcat q ≤ 8 then jOn (pc + 3) ls (vI (if b < a then b else a) :: q) M else none
  | 3, .inr (.inl b) :: .inr (.inl a) :: q => if jcat q ≤ 8 then jOn (pc + 3) ls (vL (if b < a then b else a) :: q) M else none
  | _, _ => none
noncomputable def jStac (o i : Nat) (pc : Nat) (ls : jLs) (st : List jV) (M : jM) : Option jAct := if o = 12 ∧ i = 42 then jPers pc ls st M else match lkX o i with
  | some f => jMath f pc ls st M
  | none => jCall 2 o i pc ls st M
noncomputable def jRetI (m : jMe) (st : List jV) (M : jM) : Option jAct := match st, m.2.2.2.2 with
  | [.inl z], some .int => some (.inr (.inr (.inl (some (vI z), M))))
  | [.inl z], some .boolean => if z = 0 ∨ z = 1 then some (.inr (.inr (.inl (some (vI z), M)))) else none
  | _, _ => none
noncomputable def jRetL (m : jMe) (st : List jV) (M : jM) : Option jAct := match st, m.2.2.2.2 with
  | [.inr (.inl z)], some .long => some (.inr (.inr (.inl (some (vL z), M))))
  | _, _ => none
noncomputable def jRetA (m : jMe) (st : List jV) (M : jM) : Option jAct := match st, m.2.2.2.2 with
  | [.inr (.inr z)], some (.object _) => some (.inr (.inr (.inl (some (vR z), M))))
  | _, _ => none
noncomputable def jRetV (m : jMe) (st : List jV) (M : jM) : Option jAct := match st, m.2.2.2.2 with
  | [], none => some (.inr (.inr (.inl (none, M))))
  | _, _ => none
noncomputable def jlen : Instr → Nat → Bool
  | .bipush _, n => n == 2
  | .sipush _, n => n == 3
  | .ldc _, n => n == 2
  | .ldc_w _, n => n == 3
  | .ldc2_w _, n => n == 3
  | .iload _, n => n == 2
  | .lload _, n => n == 2
  | .aload _, n => n == 2
  | .istore _, n => n == 2
  | .lstore _, n => n == 2
  | .astore _, n => n == 2
  | .iinc _ _, n => n == 3
  | .goto _, n => n == 3
  | .ifCond _ _, n => n == 3
  | .if_icmp _ _, n => n == 3
  | .ifnull _, n => n == 3
  | .ifnonnull _, n => n == 3
  | .tableswitch _ _ _ _, _ => true
  | .lookupswitch _ _, _ => true
  | .getfield _, n => n == 3
  | .putfield _, n => n == 3
  | .getstatic _, n => n == 3
  | .new _, n => n == 3
  | .newarray _, n => n == 2
  | .anewarray _, n => n == 3
  | .invokevirtual _, n => n == 3
  | .invokespecial _, n => n == 3
  | .invokestatic _, n => n == 3
  | _, n => n == 1
/-- an instruction of so many bytes -/
noncomputable def actI (m : jMe) (ins : Instr) (pc : Nat) (ls : jLs) (st : List jV) (M : jM) : Option jAct := match ins with
  | .aconst_null => jPush 1 (vR 0) pc ls st M
  | .iconst z => if -32768 ≤ z ∧ z ≤ 32767 then jPush 1 (vI z) pc ls st M else none
  | .bipush z => if -128 ≤ z ∧ z ≤ 127 then jPush 2 (vI z) pc ls st M else none
  | .sipush z => if -32768 ≤ z ∧ z ≤ 32767 then jPush 3 (vI z) pc ls st M else none
  | .lconst k => jPush 1 (vL (k.val : Nat)) pc ls st M
  | .ldc i => jLdc m.1 i 2 pc ls st M
  | .ldc_w i => jLdc m.1 i 3 pc ls st M
  | .ldc2_w i => jLdc2 m.1 i pc ls st M
  | .iload i => jLdI i 2 pc ls st M
  | .iload_n k => jLdI k.val 1 pc ls st M
  | .lload i => jLdL i 2 pc ls st M
  | .lload_n k => jLdL k.val 1 pc ls st M
  | .aload i => jLdR i 2 pc ls st M
  | .aload_n k => jLdR k.val 1 pc ls st M
  | .istore i => jStI i 2 pc ls st M
  | .istore_n k => jStI k.val 1 pc ls st M
  | .lstore i => jStL i 2 pc ls st M
  | .lstore_n k => jStL k.val 1 pc ls st M
  | .astore i => jStR i 2 pc ls st M
  | .astore_n k => jStR k.val 1 pc ls st M
  | .iinc i z => jInc i z pc ls st M
  | .iadd => jB32 (fun a b => w32 (a + b)) pc ls st M
  | .isub => jB32 (fun a b => w32 (a - b)) pc ls st M
  | .imul => jB32 (fun a b => w32 (a * b)) pc ls st M
  | .idiv => jD32 jdiv pc ls st M
  | .irem => jD32 jrem pc ls st M
  | .iand => jB32 jand pc ls st M
  | .ior => jB32 jor pc ls st M
  | .ixor => jB32 jxor pc ls st M
  | .ishl => jB32 jshl pc ls st M
  | .ishr => jB32 jshr pc ls st M
  | .iushr => jB32 jushr pc ls st M
  | .ladd => jB64 (fun a b => w64 (a + b)) pc ls st M
  | .lsub => jB64 (fun a b => w64 (a - b)) pc ls st M
  | .lmul => jB64 (fun a b => w64 (a * b)) pc ls st M
  | .ldiv => jD64 jdivL pc ls st M
  | .lrem => jD64 jremL pc ls st M
  | .land => jB64 jandL pc ls st M
  | .lor => jB64 jorL pc ls st M
  | .lneg => jNegL pc ls st M
  | .lshl => jS64 jshlL pc ls st M
  | .lshr => jS64 jshrL pc ls st M
  | .lushr => jS64 jushrL pc ls st M
  | .i2l => jI2L pc ls st M
  | .l2i => jL2I pc ls st M
  | .lcmp => jCmp pc ls st M
  | .dup => jDup pc ls st M
  | .dup2 => jDup2 pc ls st M
  | .pop => jPop pc ls st M
  | .goto off => jGo pc off ls st M
  | .ifCond c off => jIf c off pc ls st M
  | .if_icmp c off => jIfc c off pc ls st M
  | .ifnull off => jNull true off pc ls st M
  | .ifnonnull off => jNull false off pc ls st M
  | .tableswitch d lo hi os => jTab d lo hi os pc ls st M
  | .lookupswitch d ps => jLook d ps pc ls st M
  | .getfield i => jGet m.1 i pc ls st M
  | .putfield i => jPut m i pc ls st M
  | .getstatic i => jStat m.1 i pc ls st M
  | .new i => jNew m.1 i pc ls st M
  | .newarray t => jNewA t pc ls st M
  | .anewarray i => jNewR m.1 i pc ls st M
  | .arraylength => jLen pc ls st M
  | .iaload => jLdE 20 pc ls st M
  | .laload => jLdE 21 pc ls st M
  | .baload => jLdE 22 pc ls st M
  | .aaload => jLdA pc ls st M
  | .iastore => jStE 20 pc ls st M
  | .lastore => jStE 21 pc ls st M
  | .bastore => jStE 22 pc ls st M
  | .aastore => jStA pc ls st M
  | .invokevirtual i => jCall 0 m.1 i pc ls st M
  | .invokespecial i => jSpec m.1 i pc ls st M
  | .invokestatic i => jStac m.1 i pc ls st M
  | .ireturn => jRetI m st M
  | .lreturn => jRetL m st M
  | .areturn => jRetA m st M
  | .return_ => jRetV m st M
  | _ => none
noncomputable def act (m : jMe) (fr : jFr) (M : jM) : Option jAct := match decode m.2.2.1 fr.1 with
  | .ok (ins, len) => if jlen ins len = true then actI m ins fr.1 fr.2.1 fr.2.2 M else none
  | _ => none
noncomputable def jexc (M : jM) : jM := nw M (30, 0) 6
abbrev jOut : Type := (Option jV ⊕ Unit) × jM
noncomputable def exec : Nat → Nat → jMe → jFr → jM → Option jOut
  | 0, _, _, _, _ => none
  | n + 1, d, m, fr, M => match act m fr M with
    | none => none
    | some (.inl (fr', M')) => exec n d m fr' M'
    | some (.inr (.inr (.inl (r, M')))) => some (.inl r, M')
    | some (.inr (.inr (.inr (_, M')))) => some (.inr (), jexc M')
    | some (.inr (.inl (cal, as, fr', M'))) => match d with
      | 0 => none
      | d' + 1 => if cal.1 = 99 then (match d', as with
          | d'' + 1, [x, p0, p1, .inr (.inr o)] => (match exec n d'' mX10_person (0, jentry [x, p0, p1] mX10_person.2.2.2.1, []) M' with
            | some (.inl (some (.inl z)), M2) => exec n (d'' + 2) m (fr'.1, fr'.2.1, vI 0 :: fr'.2.2) (sl M2 o 0 z)
            | some (.inr _, M2) => exec n (d'' + 2) m (fr'.1, fr'.2.1, vI 1 :: fr'.2.2) M2
            | _ => none)
          | _, _ => none)
        else match exec n d' cal (0, jentry as cal.2.2.2.1, []) M' with
          | some (.inl r, M2) => exec n (d' + 1) m (fr'.1, fr'.2.1, r.toList ++ fr'.2.2) M2
          | _ => none
