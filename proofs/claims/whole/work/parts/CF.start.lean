/-! the start: the classes, the old cells -/
theorem act_iret {pc : Nat} {ls : jLs} {st : List jV} {M : jM} (h : act mL_law (pc, ls, st) M = some (.inr (.inr (.inl (some (vI 1), M))))) : decode cL_law pc = .ok (.ireturn, 1) ∧ st = [vI 1] := by
  unfold act at h
  dsimp only at h
  split at h
  case h_2 => cases h
  rename_i ins len hd
  split at h
  case isFalse => cases h
  rename_i hj
  cases ins with
  | ireturn =>
    obtain rfl : len = 1 := by simpa [jlen] using hj
    simp only [actI, jRetI] at h
    split at h
    · rename_i z hz
      cases hz
    · split at h
      · cases h; exact ⟨hd, rfl⟩
      · cases h
    · cases h
  | invokevirtual i =>
    simp only [actI, jCall] at h
    repeat' split at h
    all_goals cases h
  | invokestatic i =>
    simp only [actI, jStac, jMath, jCall, jPers] at h
    repeat' split at h
    all_goals cases h
  | invokespecial i =>
    simp only [actI, jSpec, jCall] at h
    repeat' split at h
    all_goals cases h
  | _ =>
    exfalso
    simp only [actI, jPush, jLdc, jLdc2, jLdI, jLdL, jLdR, jStI, jStL, jStR, jInc, jB32, jB64, jS64, jD32, jD64, jNegL, jI2L, jL2I, jCmp, jDup, jDup2, jPop, jGo, jIf, jIfc, jNull, jBr, jTab, jLook, jGet, jPut, jStat, jNew, jNewA, jAr, jNewR, jLen, jLdE, jLdA, jStE, jStA, jRetL, jRetA, jRetV] at h
    repeat' split at h
    all_goals cases h
theorem arr_prim {s : State} {args : Array Value} {ty : FieldType} (h : (Cond.arrayClass ty).before args s = true) (hty : ty = .int ∨ ty = .long ∨ ty = .boolean) : ∃ cA : ClassId, ArrOfT s cA ty ∧ va_RA s cA ty := by
  obtain ⟨cA, kA, comp, h1, h2, h3⟩ := Cond.arrayClass_spec h
  refine ⟨cA, fun n z => ⟨fun k h => (by cases h), kA, h2, comp, h3⟩, ?_⟩
  rcases hty with rfl | rfl | rfl <;> exact h1
theorem arr_ref {s : State} {C : String} (h : va_AO C s) : ∃ cA : ClassId, ArrOfT s cA (.object C) ∧ va_RA s cA (.object C) := by
  obtain ⟨comp, c, k, h1, h2, h3, h4, h5⟩ := Cond.arrayOver_spec h
  exact ⟨c, fun n z => ⟨fun k h => (by cases h), k, h3, comp, h4⟩, k, comp, h3, h4, h1, h5⟩
def rowW (nm : String) (v : Nat → Int) : List Cond := .arrayOf (.static "RememberedWeight$IslandReader" nm "[I") .int :: .eq (.length (.static "RememberedWeight$IslandReader" nm "[I")) (.int (Int32.ofNat 12)) :: (List.range 12).map (fun j => .eq (.elem (.static "RememberedWeight$IslandReader" nm "[I") (.int (Int32.ofNat j))) (.int (Int32.ofInt (v j))))
set_option maxRecDepth 20000 in
theorem rowW_1 : ∀ w ∈ rowW "LETTERS" leY, w ∈ flatC (Jvm.Cond.and given_1 narrow_1) := by decide +kernel
set_option maxRecDepth 20000 in
theorem rowW_2 : ∀ w ∈ rowW "LOWEST" loY, w ∈ flatC (Jvm.Cond.and given_1 narrow_1) := by decide +kernel
set_option maxRecDepth 20000 in
theorem rowW_3 : ∀ w ∈ rowW "HIGHEST" hiY, w ∈ flatC (Jvm.Cond.and given_1 narrow_1) := by decide +kernel
set_option maxRecDepth 20000 in
theorem rowW_4 : ∀ w ∈ rowW "UNTOLD" utY, w ∈ flatC (Jvm.Cond.and given_1 narrow_1) := by decide +kernel
def jSn : List Cond := [.isRef (.static Bundle.tN "UNASSIGNED_STACK" Bundle.steD), .isRef (.static Bundle.tN "SUPPRESSED_SENTINEL" Bundle.listD), .exactly (.string RX10 185) "java/lang/String"]
set_option maxRecDepth 20000 in
theorem jSn_in : ∀ w ∈ jSn, w ∈ flatC (Jvm.Cond.and given_1 narrow_1) := by decide +kernel
def jSw : List Cond := [.laysStatic "RememberedWeight$IslandReader" "LETTERS" "[I", .laysStatic "RememberedWeight$IslandReader" "LOWEST" "[I", .laysStatic "RememberedWeight$IslandReader" "HIGHEST" "[I", .laysStatic "RememberedWeight$IslandReader" "UNTOLD" "[I", .initialized "RememberedWeight$IslandReader", .laysStatic Bundle.tN "UNASSIGNED_STACK" Bundle.steD, .laysStatic Bundle.tN "SUPPRESSED_SENTINEL" Bundle.listD, .initialized Bundle.tN, .arrayOver (.object "RememberedWeight$State"), .arrayOver (.object "RememberedWeight$Law")]
theorem jSw_in : ∀ w ∈ jSw, w ∈ lw_tbl := by decide +kernel
theorem old_row {s : State} {b : Nat} {nm : String} {v : Nat → Int} (hf : ∀ w ∈ flatC (Jvm.Cond.and given_1 narrow_1), w.before #[Value.ref b] s = true) (hw : ∀ w ∈ rowW nm v, w ∈ flatC (Jvm.Cond.and given_1 narrow_1)) : ∃ t : Nat, (Term.static "RememberedWeight$IslandReader" nm "[I").eval #[Value.ref b] s none [] s = some (.ref t) ∧ va_T .int t 12 (fun j => .int (Int32.ofInt (v j))) (fun a => s.heap.size ≤ a) s s.heap :=
  va_Tof (by decide) (hf _ (hw _ List.mem_cons_self)) (va_eqt (hf _ (hw _ (List.mem_cons_of_mem _ List.mem_cons_self)))) (fun j hj => va_eqt (hf _ (hw _ (List.mem_cons_of_mem _ (List.mem_cons_of_mem _ (List.mem_map.mpr ⟨j, List.mem_range.mpr hj, rfl⟩)))))) (fun a ha q => Nat.not_le.mpr ha q)
theorem lit_in : ∀ i, i < 12 → (-1000 ≤ leY i ∧ leY i ≤ 1000) ∧ (-1000 ≤ loY i ∧ loY i ≤ 1000) ∧ (-1000 ≤ hiY i ∧ hiY i ≤ 1000) ∧ (-1000 ≤ utY i ∧ utY i ≤ 1000) := by decide
/-- the memory at the law's entry -/
noncomputable def M0F (L : Nat) (xs : Nat → Int32) : jM := (6, 0, (fun r => if r = 5 then (20, L) else (20, 12)), (fun r j => if r = 5 then (xs j).toInt else if 12 ≤ j then 0 else if r = 1 then leY j else if r = 2 then loY j else if r = 3 then hiY j else if r = 4 then utY j else 0), (fun _ _ => 0), fun _ _ => 0)
theorem M0_g {L : Nat} {xs : Nat → Int32} : gM (M0F L xs) := by
  intro r i
  refine ⟨?_, by show i64 0; unfold i64; decide⟩
  show i32 (if r = 5 then (xs i).toInt else if 12 ≤ i then 0 else if r = 1 then leY i else if r = 2 then loY i else if r = 3 then hiY i else if r = 4 then utY i else 0)
  by_cases c5 : r = 5
  · rw [if_pos c5]; exact t32_in _
  · rw [if_neg c5]
    by_cases c : 12 ≤ i
    · rw [if_pos c]; unfold i32; decide
    · rw [if_neg c]
      obtain ⟨a1, a2, a3, a4⟩ := lit_in i (by omega)
      unfold i32
      split
      · omega
      · split
        · omega
        · split
          · omega
          · split
            · omega
            · omega
theorem w1F_le : w1F + 1024000 ≤ 7293034 := by decide +kernel
theorem no_tr {l : Launch} (h : l.flags = flags0) : l.stackTraces = false := by
  unfold Launch.stackTraces
  rw [h]
  decide +kernel
