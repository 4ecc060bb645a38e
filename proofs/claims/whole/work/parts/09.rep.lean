/-! how a memory lies in a heap; frames; contexts -/
/-- classes, slots, array classes, first new address, addresses, the heap at the law's entry, the old cells -/
abbrev jG : Type := (Nat → ClassId) × (Nat → Nat → Nat) × (Nat → ClassId) × Nat × (Nat → Nat) × Heap × (Nat → Cell)
abbrev jG.D (G : jG) : va_G := (G.1, G.2.1)
abbrev jG.cT (G : jG) : Nat → ClassId := G.2.2.1
abbrev jG.bs (G : jG) : Nat := G.2.2.2.1
abbrev jG.ad (G : jG) : Nat → Nat := G.2.2.2.2.1
abbrev jG.H0 (G : jG) : Heap := G.2.2.2.2.2.1
abbrev jG.sc (G : jG) : Nat → Cell := G.2.2.2.2.2.2
def jref (G : jG) : Nat → Value
  | 0 => .null
  | k + 1 => .ref (G.ad (k + 1))
def jval (G : jG) : jV → Value
  | .inl z => .int (Int32.ofInt z)
  | .inr (.inl z) => .long (Int64.ofInt z)
  | .inr (.inr r) => jref G r
theorem jref_ne {G : jG} {r : Nat} (h : r ≠ 0) : jref G r = .ref (G.ad r) := by
  cases r with
  | zero => exact absurd rfl h
  | succ k => rfl
def jfv (G : jG) (M : jM) (c r k : Nat) : Value := match jty c k with
  | .int => .int (Int32.ofInt (iv M r k))
  | .boolean => .int (Int32.ofInt (iv M r k))
  | .long => .long (Int64.ofInt (lg M r k))
  | _ => jref G (rv M r k)
def jelem (G : jG) (M : jM) (tag r : Nat) : Nat → Value := fun j => match tag with
  | 21 => .long (Int64.ofInt (lg M r j))
  | 23 => jref G (rv M r j)
  | 24 => jref G (rv M r j)
  | _ => .int (Int32.ofInt (iv M r j))
def jold (G : jG) (M : jM) (H : Heap) (r : Nat) : Prop := H[G.ad r]? = some (G.sc r) ∧ G.ad r < G.bs ∧ (kd M r).1 = 20 ∧ (kd M r).2 < 2 ^ 31 ∧ (kd M r).2 ≤ (G.sc r).slots.size ∧ (G.sc r).slots.size.toInt32 = Int32.ofNat (kd M r).2 ∧ ∀ j : Nat, j < (kd M r).2 → (G.sc r).slots[j]? = some (.int (Int32.ofInt (iv M r j)))
def jnew (G : jG) (M : jM) (H : Heap) (r : Nat) : Prop :=
  (∀ q : vw_C, jcl[(kd M r).1]? = some q → t_OB (G.ad r) (G.D.1 (kd M r).1) q.2.2 (G.D.2 (kd M r).1) H (jfv G M (kd M r).1 r)) ∧
  (20 ≤ (kd M r).1 → (kd M r).1 ≤ 24 → (kd M r).2 ≤ 65536 ∧ H[G.ad r]? = some (arrV (G.cT (kd M r).1) (kd M r).2 (jelem G M (kd M r).1 r)))
def jRep (G : jG) (M : jM) (H : Heap) : Prop := 6 ≤ mx M ∧ H.size = G.bs + (mx M - 6) ∧ (∀ q : Nat, q < G.bs → H[q]? = G.H0[q]?) ∧ (∀ r : Nat, r ≠ 0 → r < 6 → jold G M H r) ∧ ∀ r : Nat, 6 ≤ r → r < mx M → jnew G M H r
def jtys (G : jG) : List (ClassId × FieldType) := [(G.cT 20, .int), (G.cT 21, .long), (G.cT 22, .boolean), (G.cT 23, .object "RememberedWeight$State"), (G.cT 24, .object "RememberedWeight$Law")]
def jnames : List (Nat × String) := [(1, "LETTERS"), (2, "LOWEST"), (3, "HIGHEST"), (4, "UNTOLD")]
def jisN : Cond → Bool
  | .fieldLinkNest _ _ _ _ _ _ => true
  | .methodLinkNest _ _ _ _ => true
  | _ => false
noncomputable def jN : List Cond := lw_tbl.filter jisN
theorem jisN_on {w : Cond} (h : jisN w = true) : w.onTables = true := by
  unfold jisN at h
  split at h
  · rfl
  · rfl
  · cases h
theorem jisN_warm {w : Cond} (h : jisN w = true) {s U : State} (hW : s.WarmedH U.vm) (hZ : va_Nw w s) : va_Nw w U := by
  unfold jisN at h
  split at h
  · exact va_Nw.warmF hW hZ
  · exact va_Nw.warmM hW hZ
  · cases h
/-- what the machine's tables say of the classes and of the old cells -/
def jK (G : jG) (s : State) : Prop := (∀ r : Nat, 6 ≤ r → G.ad r = G.bs + (r - 6)) ∧ va_K G.D jcl (jtys G) s ∧ (∀ r : Nat, r ≠ 0 → r < 6 → s.isArrayOf (G.sc r) .int ∧ (G.sc r).vm ≠ .unknown) ∧ (∀ q ∈ jnames, va_Z "RememberedWeight$IslandReader" q.2 "[I" (.ref (G.ad q.1)) (fun a => G.bs ≤ a) s G.H0) ∧ (∀ w ∈ jN, va_Nw w s) ∧ va_AO "RememberedWeight$State" s ∧ va_AO "RememberedWeight$Law" s
theorem jK.warm {G : jG} {u U : State} (hW : u.WarmedH U.vm) (h : jK G u) : jK G U := ⟨h.1, va_K.moved hW.alike h.2.1, fun r h1 h2 => ⟨State.isArrayOf_alike hW.alike (h.2.2.1 r h1 h2).1, (h.2.2.1 r h1 h2).2⟩, fun q hq => va_Z.moved hW.alike (h.2.2.2.1 q hq), fun w hw => jisN_warm (List.mem_filter.mp hw).2 hW (h.2.2.2.2.1 w hw), va_AO.moved hW.alike h.2.2.2.2.2.1, va_AO.moved hW.alike h.2.2.2.2.2.2⟩
theorem jK.same {G : jG} {u U : State} (hv : u.vm = U.vm) (h : jK G u) : jK G U := by
  have hal : u.vm.Alike U.vm := by rw [hv]; exact Vm.Alike.refl U.vm
  exact ⟨h.1, va_K.moved hal h.2.1, fun r h1 h2 => ⟨State.isArrayOf_alike hal (h.2.2.1 r h1 h2).1, (h.2.2.1 r h1 h2).2⟩, fun q hq => va_Z.moved hal (h.2.2.2.1 q hq), fun w hw => va_Nw.same (jisN_on (List.mem_filter.mp hw).2) hv (h.2.2.2.2.1 w hw), va_AO.moved hal h.2.2.2.2.2.1, va_AO.moved hal h.2.2.2.2.2.2⟩
noncomputable def jW : List Cond := lw_tbl.filter goodWord
/-- the context of a frame of method m: depth d may be called from here -/
def jCtx (p : Program) (R : Room) (s : State) (mm : MethodId) (args : Array Value) (meth : Method) (c : Code) (G : jG) (m : jMe) (d : Nat) : Prop :=
  p.tables.exec = Jvm.exec ∧ c.code = m.2.2.1 ∧ c.maxLocals = m.2.2.2.1 ∧ s.vm.findClass (jown m.1) = some mm.cls ∧ (∀ w ∈ jW, w.before args s = true) ∧ jK G s ∧ (m.2.1.name = "<init>" → meth.name = "<init>") ∧ meth.sig.returnType = m.2.2.2.2 ∧ meth.locks = false ∧ d + 1 ≤ R.frames ∧ 60 * (d + 1) ≤ R.locals
/-- the machine's locals -/
def jl (G : jG) (nL : Nat) (lsA : Array Slot) (ls : jLs) : Prop := ls.length = nL ∧ lsA.size = nL ∧ lv_wf lsA ∧ ∀ (i : Nat) (v : jV), ls[i]? = some (some v) → lsA[i]? = some (.val (jval G v))
theorem jval_cat (G : jG) (v : jV) : (jval G v).category = 2 ↔ ∃ z, v = vL z := by
  rcases v with z | z | r
  · simp [jval, Value.category]
  · simp [jval, Value.category]
  · cases r <;> simp [jval, jref, Value.category]
theorem jget_some {ls : jLs} {i : Nat} {v : jV} (h : jget ls i = some v) : ls[i]? = some (some v) := by
  unfold jget at h
  split at h
  · cases h; assumption
  · cases h
def jlist (G : jG) (ls : jLs) : List (Nat × Value) := (List.range ls.length).filterMap (fun i => (jget ls i).map (fun v => (i, jval G v)))
theorem jlist_mem {G : jG} {ls : jLs} {i : Nat} {v : jV} (h : ls[i]? = some (some v)) : (i, jval G v) ∈ jlist G ls := by
  refine List.mem_filterMap.mpr ⟨i, List.mem_range.mpr ?_, ?_⟩
  · exact (List.getElem?_eq_some_iff.mp h).1
  · simp [jget, h]
theorem jl.has {G : jG} {nL : Nat} {lsA : Array Slot} {ls : jLs} (h : jl G nL lsA ls) : lv_has lsA nL (jlist G ls) := by
  refine ⟨h.2.1, h.2.2.1, fun q hq => ?_⟩
  obtain ⟨i, -, hi⟩ := List.mem_filterMap.mp hq
  cases hg : jget ls i with
  | none => rw [hg] at hi; cases hi
  | some v =>
    rw [hg] at hi
    cases hi
    exact h.2.2.2 i v (jget_some hg)
theorem jkill_len (ls : jLs) (i : Nat) : (jkill ls i).length = ls.length := by
  unfold jkill
  split
  · rfl
  · split <;> simp
theorem jkill_at {ls : jLs} {i j : Nat} {u : jV} (h : (jkill ls i)[j]? = some (some u)) : ls[j]? = some (some u) ∧ (j + 1 = i → ∀ z, u ≠ vL z) := by
  unfold jkill at h
  split at h
  · exact ⟨h, fun h1 => by omega⟩
  · rename_i k
    split at h
    · rename_i z hz
      by_cases hj : j = k
      · subst hj
        rw [List.getElem?_set_self (List.getElem?_eq_some_iff.mp hz).1] at h
        cases h
      · rw [List.getElem?_set_ne (Ne.symm hj)] at h
        exact ⟨h, fun h1 => by omega⟩
    · rename_i hz
      refine ⟨h, fun h1 z hu => ?_⟩
      have : j = k := by omega
      subst this
      subst hu
      exact hz z h
theorem jl.put1 {G : jG} {nL : Nat} {lsA : Array Slot} {ls : jLs} {i : Nat} {v : jV} (hlen : ls.length = nL) (h : lv_has lsA nL ((i, jval G v) :: (jlist G ls).filter (fun q => !(q.1 == i) && !(q.1 + 1 == i && q.2.category == 2)))) : jl G nL lsA (jput1 ls i v) := by
  refine ⟨by unfold jput1; rw [List.length_set, jkill_len, hlen], h.1, h.2.1, fun j u hj => ?_⟩
  unfold jput1 at hj
  by_cases hji : j = i
  · subst hji
    have hl := (List.getElem?_eq_some_iff.mp hj).1
    rw [List.length_set] at hl
    rw [List.getElem?_set_self hl] at hj
    cases hj
    exact h.2.2 (j, jval G v) List.mem_cons_self
  · rw [List.getElem?_set_ne (Ne.symm hji)] at hj
    obtain ⟨h1, h2⟩ := jkill_at hj
    refine h.2.2 (j, jval G u) (List.mem_cons_of_mem _ (List.mem_filter.mpr ⟨jlist_mem h1, ?_⟩))
    by_cases hz : j + 1 = i
    · have : ¬ (jval G u).category = 2 := fun hc => by
        obtain ⟨z, hz2⟩ := (jval_cat G u).mp hc
        exact h2 hz z hz2
      simp [hji, this]
    · simp [hji, hz]
theorem jl.put2 {G : jG} {nL : Nat} {lsA : Array Slot} {ls : jLs} {i : Nat} {v : jV} (hlen : ls.length = nL) (h : lv_has lsA nL ((i, jval G v) :: (jlist G ls).filter (fun q => !(q.1 == i) && (!(q.1 == i + 1) && !(q.1 + 1 == i && q.2.category == 2))))) : jl G nL lsA (jput2 ls i v) := by
  refine ⟨by unfold jput2; rw [List.length_set, List.length_set, jkill_len, hlen], h.1, h.2.1, fun j u hj => ?_⟩
  unfold jput2 at hj
  by_cases hji2 : j = i + 1
  · subst hji2
    have hl := (List.getElem?_eq_some_iff.mp hj).1
    rw [List.length_set] at hl
    rw [List.getElem?_set_self hl] at hj
    cases hj
  · rw [List.getElem?_set_ne (Ne.symm hji2)] at hj
    by_cases hji : j = i
    · subst hji
      have hl := (List.getElem?_eq_some_iff.mp hj).1
      rw [List.length_set] at hl
      rw [List.getElem?_set_self hl] at hj
      cases hj
      exact h.2.2 (j, jval G v) List.mem_cons_self
    · rw [List.getElem?_set_ne (Ne.symm hji)] at hj
      obtain ⟨h1, h2⟩ := jkill_at hj
      refine h.2.2 (j, jval G u) (List.mem_cons_of_mem _ (List.mem_filter.mpr ⟨jlist_mem h1, ?_⟩))
      by_cases hz : j + 1 = i
      · have : ¬ (jval G u).category = 2 := fun hc => by
          obtain ⟨z, hz2⟩ := (jval_cat G u).mp hc
          exact h2 hz z hz2
        simp [hji, hji2, this]
      · simp [hji, hji2, hz]
theorem gL.put1 {ls : jLs} {i : Nat} {v : jV} (h : gL ls) (hv : gV v) : gL (jput1 ls i v) := by
  intro j u hj
  unfold jput1 at hj
  by_cases hji : j = i
  · subst hji
    have hl := (List.getElem?_eq_some_iff.mp hj).1
    rw [List.length_set] at hl
    rw [List.getElem?_set_self hl] at hj
    cases hj
    exact hv
  · rw [List.getElem?_set_ne (Ne.symm hji)] at hj
    exact h j u (jkill_at hj).1
theorem gL.put2 {ls : jLs} {i : Nat} {v : jV} (h : gL ls) (hv : gV v) : gL (jput2 ls i v) := by
  intro j u hj
  unfold jput2 at hj
  by_cases hji2 : j = i + 1
  · subst hji2
    have hl := (List.getElem?_eq_some_iff.mp hj).1
    rw [List.length_set] at hl
    rw [List.getElem?_set_self hl] at hj
    cases hj
  · rw [List.getElem?_set_ne (Ne.symm hji2)] at hj
    by_cases hji : j = i
    · subst hji
      have hl := (List.getElem?_eq_some_iff.mp hj).1
      rw [List.length_set] at hl
      rw [List.getElem?_set_self hl] at hj
      cases hj
      exact hv
    · rw [List.getElem?_set_ne (Ne.symm hji)] at hj
      exact h j u (jkill_at hj).1
theorem gS_cons {v : jV} {st : List jV} : gS (v :: st) ↔ gV v ∧ gS st := List.forall_mem_cons
/-- the machine at this place, in every heap that holds the memory, comes to a state with Q -/
def JW (p : Program) (l : Launch) (e : Env) (R : Room) (s : State) (mm : MethodId) (args : Array Value) (below : List Frame) (meth : Method) (c : Code) (Q : State → Prop) (G : jG) (mb sb : Nat) (M : jM) (pc : Nat) (ls : jLs) (st : List jV) : Prop :=
  ∀ (H : Heap) (lsA : Array Slot) (locs : List Loc), jRep G M H → gM M → gL ls → gS st → jl G c.maxLocals lsA ls → (∀ q ∈ locs, G.bs ≤ q.base) → W p l e R s mm args below meth c H locs (mx M - mb) (ms M - sb) Q (F0 mm pc lsA (st.map (jval G)))
