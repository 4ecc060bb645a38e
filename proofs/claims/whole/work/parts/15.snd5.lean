/-! calls, answers, and the whole: what runs, runs over the machine -/
/-- what a call is -/
def jCallF (m cal : jMe) (as : List jV) (pc : Nat) (ls : jLs) (st q : List jV) (M : jM) : Prop :=
  jcat q ≤ 8 ∧ (jargs as).length ≤ cal.2.2.2.1 ∧ ∃ i na, (decode m.2.2.1 pc = .ok (.invokestatic i, 3) ∧ lkM m.1 i = some (2, cal, na) ∧ as.length = na ∧ st = as.reverse ++ q) ∨
    ∃ r as', as = vR r :: as' ∧ jobj M cal.1 r = true ∧ as'.length = na ∧ st = as'.reverse ++ vR r :: q ∧ ((decode m.2.2.1 pc = .ok (.invokevirtual i, 3) ∧ lkM m.1 i = some (0, cal, na)) ∨ (decode m.2.2.1 pc = .ok (.invokespecial i, 3) ∧ lkM m.1 i = some (1, cal, na) ∧ cal.2.1.name = "<init>"))
theorem take_rev {α : Type} {st : List α} {na : Nat} : (st.take na).reverse.reverse ++ st.drop na = st := by rw [List.reverse_reverse, List.take_append_drop]
theorem jCall_is {m cal : jMe} {k i pc : Nat} {ls : jLs} {st as : List jV} {M M' : jM} {fr' : jFr} (h : jCall k m.1 i pc ls st M = some (.inr (.inl (cal, as, fr', M')))) (hd : (k = 2 ∧ decode m.2.2.1 pc = .ok (.invokestatic i, 3)) ∨ (k = 0 ∧ decode m.2.2.1 pc = .ok (.invokevirtual i, 3)) ∨ (k = 1 ∧ decode m.2.2.1 pc = .ok (.invokespecial i, 3))) : ∃ q, fr' = (pc + 3, ls, q) ∧ M' = M ∧ jCallF m cal as pc ls st q M := by
  unfold jCall at h
  split at h
  case h_2 => cases h
  rename_i k' cal' na hm
  split at h
  case isFalse => cases h
  rename_i hc
  obtain ⟨rfl, hn, hw, hl⟩ := hc
  split at h
  · cases h
    refine ⟨_, rfl, rfl, hw, hl, i, na, Or.inl ⟨?_, hm, by simp; omega, take_rev.symm⟩⟩
    rcases hd with ⟨-, hd⟩ | ⟨h9, -⟩ | ⟨h9, -⟩
    · exact hd
    · omega
    · omega
  · rename_i r q hq
    split at h
    case isFalse => cases h
    rename_i ho
    cases h
    have hq2 : st.drop (na + 1) = q := by
      have := congrArg (List.drop 1) hq
      rwa [List.drop_drop] at this
    refine ⟨q, rfl, rfl, (show jcat q ≤ 8 by rw [← hq2]; exact hw), hl, i, na, Or.inr ⟨r, _, rfl, ho, by simp; omega, by rw [← hq]; exact take_rev.symm, Or.inl ⟨?_, hm⟩⟩⟩
    rcases hd with ⟨h9, -⟩ | ⟨-, hd⟩ | ⟨h9, -⟩
    · omega
    · exact hd
    · omega
  · rename_i r q hq
    split at h
    case isFalse => cases h
    rename_i ho
    cases h
    have hq2 : st.drop (na + 1) = q := by
      have := congrArg (List.drop 1) hq
      rwa [List.drop_drop] at this
    refine ⟨q, rfl, rfl, (show jcat q ≤ 8 by rw [← hq2]; exact hw), hl, i, na, Or.inr ⟨r, _, rfl, ho.1, by simp; omega, by rw [← hq]; exact take_rev.symm, Or.inr ⟨?_, hm, ho.2⟩⟩⟩
    rcases hd with ⟨h9, -⟩ | ⟨h9, -⟩ | ⟨-, hd⟩
    · omega
    · omega
    · exact hd
  · cases h
noncomputable def jPersF (pc : Nat) (ls : jLs) (st q : List jV) (M : jM) (m cal : jMe) (as : List jV) : Prop := m.1 = 12 ∧ cal = mL_person ∧ decode m.2.2.1 pc = .ok (.invokestatic 42, 3) ∧ jcat q ≤ 8 ∧ ∃ x p0 p1 o, as = [vR x, vI p0, vI p1, vR o] ∧ st = vR o :: vI p1 :: vI p0 :: vR x :: q ∧ jobj M 10 x = true ∧ jIdx M 21 o 0 = true ∧ 6 ≤ o ∧ 6 ≤ x
theorem act_call {m cal : jMe} {pc : Nat} {ls : jLs} {st as : List jV} {M M' : jM} {fr' : jFr} (h : act m (pc, ls, st) M = some (.inr (.inl (cal, as, fr', M')))) : ∃ q, fr' = (pc + 3, ls, q) ∧ M' = M ∧ (jCallF m cal as pc ls st q M ∨ jPersF pc ls st q M m cal as) := by
  unfold act at h
  dsimp only at h
  split at h
  case h_2 => cases h
  rename_i ins len hd
  split at h
  case isFalse => cases h
  rename_i hj
  cases ins with
  | invokevirtual i =>
    obtain rfl : len = 3 := by simpa [jlen] using hj
    simp only [actI] at h
    obtain ⟨q, h1, h2, h3⟩ := jCall_is h (Or.inr (Or.inl ⟨rfl, hd⟩))
    exact ⟨q, h1, h2, Or.inl h3⟩
  | invokespecial i =>
    obtain rfl : len = 3 := by simpa [jlen] using hj
    simp only [actI, jSpec] at h
    split at h
    · repeat' split at h
      all_goals cases h
    · obtain ⟨q, h1, h2, h3⟩ := jCall_is h (Or.inr (Or.inr ⟨rfl, hd⟩))
      exact ⟨q, h1, h2, Or.inl h3⟩
  | invokestatic i =>
    obtain rfl : len = 3 := by simpa [jlen] using hj
    simp only [actI, jStac] at h
    split at h
    · rename_i h12
      unfold jPers at h
      split at h
      · split at h
        · rename_i hx
          cases h
          obtain ⟨h13, rfl⟩ := h12
          exact ⟨_, rfl, rfl, Or.inr ⟨h13, rfl, hd, hx.2.2.2.2, _, _, _, _, rfl, rfl, hx.1, hx.2.1, hx.2.2.1, hx.2.2.2.1⟩⟩
        · cases h
      · cases h
    · split at h
      · simp only [jMath] at h
        repeat' split at h
        all_goals cases h
      · obtain ⟨q, h1, h2, h3⟩ := jCall_is h (Or.inl ⟨rfl, hd⟩)
        exact ⟨q, h1, h2, Or.inl h3⟩
  | _ =>
    exfalso
    simp only [actI, jPush, jLdc, jLdc2, jLdI, jLdL, jLdR, jStI, jStL, jStR, jInc, jB32, jB64, jS64, jD32, jD64, jNegL, jI2L, jL2I, jCmp, jDup, jDup2, jPop, jGo, jIf, jIfc, jNull, jBr, jTab, jLook, jGet, jPut, jStat, jNew, jNewA, jAr, jNewR, jLen, jLdE, jLdA, jStE, jStA, jSpec, jRetI, jRetL, jRetA, jRetV] at h
    repeat' split at h
    all_goals cases h
theorem act_mx {m : jMe} {fr fr' : jFr} {M M' : jM} (h : act m fr M = some (.inl (fr', M'))) : mx M ≤ mx M' ∧ ms M ≤ ms M' := by
  unfold act at h
  split at h
  case h_2 => cases h
  rename_i ins len hd
  split at h
  case isFalse => cases h
  cases ins with
  | invokevirtual i => exact absurd h (jCall_no _ _ _ _ _ _ _)
  | invokestatic i =>
    simp only [actI, jStac] at h
    split at h
    · unfold jPers at h
      split at h
      · split at h <;> cases h
      · cases h
    · split at h
      · simp only [jMath] at h
        repeat' split at h
        all_goals first | (cases h; exact ⟨Nat.le_refl _, Nat.le_refl _⟩) | cases h
      · exact absurd h (jCall_no _ _ _ _ _ _ _)
  | invokespecial i =>
    simp only [actI, jSpec] at h
    split at h
    · repeat' split at h
      all_goals first | (cases h; exact ⟨Nat.le_refl _, Nat.le_refl _⟩) | cases h
    · exact absurd h (jCall_no _ _ _ _ _ _ _)
  | _ =>
    simp only [actI, jPush, jLdc, jLdc2, jLdI, jLdL, jLdR, jStI, jStL, jStR, jInc, jB32, jB64, jS64, jD32, jD64, jNegL, jI2L, jL2I, jCmp, jDup, jDup2, jPop, jGo, jIf, jIfc, jNull, jBr, jTab, jLook, jGet, jPut, jStat, jNew, jNewA, jAr, jNewR, jLen, jLdE, jLdA, jStE, jStA, jSpec, jRetI, jRetL, jRetA, jRetV] at h
    repeat' split at h
    all_goals first | (cases h; exact ⟨Nat.le_refl _, Nat.le_refl _⟩) | (cases h; exact ⟨Nat.le_succ _, Nat.le_add_right _ _⟩) | cases h
theorem act_ret {m : jMe} {fr : jFr} {M M' : jM} {r : Option jV} (h : act m fr M = some (.inr (.inr (.inl (r, M'))))) : M' = M := by
  unfold act at h
  split at h
  case h_2 => cases h
  rename_i ins len hd
  split at h
  case isFalse => cases h
  cases ins with
  | invokevirtual i =>
    simp only [actI, jCall] at h
    repeat' split at h
    all_goals cases h
  | invokestatic i =>
    simp only [actI, jStac, jMath, jCall, jPers] at h
    repeat' split at h
    all_goals cases h
  | invokespecial i =>
    simp only [actI, jSpec, jCall] at h
    repeat' split at h
    all_goals cases h
  | _ =>
    simp only [actI, jPush, jLdc, jLdc2, jLdI, jLdL, jLdR, jStI, jStL, jStR, jInc, jB32, jB64, jS64, jD32, jD64, jNegL, jI2L, jL2I, jCmp, jDup, jDup2, jPop, jGo, jIf, jIfc, jNull, jBr, jTab, jLook, jGet, jPut, jStat, jNew, jNewA, jAr, jNewR, jLen, jLdE, jLdA, jStE, jStA, jSpec, jRetI, jRetL, jRetA, jRetV] at h
    repeat' split at h
    all_goals first | (cases h; rfl) | cases h
