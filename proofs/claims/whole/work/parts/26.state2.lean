/-! STATES: more methods -/
theorem w32s {i : Nat} (h : i < 1000000) : w32 ((i : Int) + 1) = ((i + 1 : Nat) : Int) := by rw [w32_id (z := (i : Int) + 1) ⟨by omega, by omega⟩]; omega
/-- an HOUR for the thoughts -/
def fPass (M : jM) (a : Nat) (n : Nat) : Nat → Nat → Int := fun r i => if r = a + 1 ∧ i < n ∧ iv M (a + 5) i = 0 then -1 else if r = a + 4 ∧ i < n ∧ iv M (a + 5) i ≠ 0 ∧ iv M (a + 4) i < 99 then iv M (a + 4) i + 1 else iv M r i
def fPassH (M : jM) (a : Nat) : Nat → Nat → Int := fun r i => if r = a ∧ i = 9 then iv M a 9 + 1 else fPass M a 32 r i
def fGive (M : jM) (a q : Nat) (w : Int) : Nat → Nat → Int := fun r i => if r = a + 1 ∧ 4 * q ≤ i ∧ i < 4 * q + 4 ∧ iv M (a + 1) i = w then -1 else iv M r i
def fRenew (M : jM) (a : Nat) (w : Int) (n : Nat) : Nat → Nat → Int := fun r i => if r = a + 4 ∧ i < n ∧ iv M (a + 1) i = w ∧ iv M (a + 2) i = 2 then 0 else iv M r i
/-- a's minds, bodies, wind, coins and hour become b's -/
def fCopy (M : jM) (a b : Nat) : Nat → Nat → Int := fun r i => if r = a ∧ i = 9 then iv M b 9 else if r = a ∧ i = 8 then iv M b 8 else if r = a ∧ i = 7 then iv M b 7 else if r = a + 6 ∧ i < 8 then iv M (b + 6) i else if r = a + 5 ∧ i < 32 then iv M (b + 5) i else if r = a + 4 ∧ i < 32 then iv M (b + 4) i else if r = a + 3 ∧ i < 32 then iv M (b + 3) i else if r = a + 2 ∧ i < 32 then iv M (b + 2) i else if r = a + 1 ∧ i < 32 then iv M (b + 1) i else iv M r i
section StateM2
variable {d : Nat} {M : jM} {Q : Option jV → jM → Prop} {a b : Nat}
theorem s_passHour (hd : 2 ≤ d) (hS : Shp M) (ha : isSt a = true) (hh : 0 ≤ iv M a 9 ∧ iv M a 9 < 1000000) (hg : ∀ j, j < 32 → 0 ≤ iv M (a + 4) j ∧ iv M (a + 4) j ≤ 99) (h : Q none (wi M (fPassH M a))) : Call d mX7_passHour [vR a] M Q := by
  obtain ⟨e, rfl⟩ := dd (d := d) (by omega)
  refine vs_passHour ha (by omega) hS ?_
  have key : ∀ (j i : Nat), i ≤ 32 → 32 - i = j → Run (e + 1) mX7_passHour 2 [some (vR a), some (vI (i : Int))] [] (wi M (fPass M a i)) Q := by
    intro j
    induction j with
    | zero =>
      intro i hi hj
      obtain rfl : i = 32 := by omega
      refine vs_passHour_2 ha (by omega) hS.wi ⟨fun _ => ?_, fun c => absurd c (by decide)⟩
      rw [si_wi, wi_wi, iv_wi]
      have e9 : fPass M a 32 a 9 = iv M a 9 := by unfold fPass; rw [if_neg (by omega), if_neg (by omega)]
      rw [e9, w32_id (z := iv M a 9 + 1) ⟨by omega, by omega⟩]
      exact h
    | succ j ih =>
      intro i hi hj
      have hi2 : i < 32 := by omega
      have ih1 := ih (i + 1) (by omega) (by omega)
      obtain ⟨g1, g2⟩ := hg i hi2
      have m5 : iv (wi M (fPass M a i)) (a + 5) i = iv M (a + 5) i := by rw [iv_wi]; unfold fPass; rw [if_neg (by omega), if_neg (by omega)]
      have m4 : iv (wi M (fPass M a i)) (a + 4) i = iv M (a + 4) i := by rw [iv_wi]; unfold fPass; rw [if_neg (by omega), if_neg (by omega)]
      refine vs_passHour_2 ha (by omega) hS.wi ⟨fun c => absurd c (by omega), fun _ => ⟨fun c => ⟨fun c2 => ?_, fun c2 => ?_⟩, fun c => ?_⟩⟩
      · rw [atv_n hi2, m5] at c
        rw [atv_n hi2, m4] at c2
        rw [w32s (by omega)]
        refine (congrArg (fun f => Run (e + 1) mX7_passHour 2 [some (vR a), some (vI ((i + 1 : Nat) : Int))] [] f Q) (wi_eq ?_)).mp ih1
        intro r k
        unfold fPass
        by_cases hk : k = i
        · subst hk
          simp [c, show ¬ iv M (a + 4) k < 99 by omega]
        · have : k < i + 1 ↔ k < i := by omega
          simp [this]
      · rw [atv_n hi2, m5] at c
        rw [atv_n hi2, m4] at c2
        rw [w32s (by omega), atv_n hi2, m4, w32_id (z := iv M (a + 4) i + 1) ⟨by omega, by omega⟩, ptv_n hi2, wi_wi, iv_wi]
        refine (congrArg (fun f => Run (e + 1) mX7_passHour 2 [some (vR a), some (vI ((i + 1 : Nat) : Int))] [] f Q) (wi_eq ?_)).mp ih1
        intro r k
        unfold fPass
        by_cases hk : k = i
        · subst hk
          by_cases hr : r = a + 4
          · subst hr
            simp [c, show iv M (a + 4) k < 99 by omega]
          · simp [c, hr]
        · have h1 : k < i + 1 ↔ k < i := by omega
          simp [h1, hk]
      · rw [atv_n hi2, m5] at c
        have c' : iv M (a + 5) i = 0 := by simpa using c
        rw [w32s (by omega), ptv_n hi2, wi_wi, iv_wi]
        refine (congrArg (fun f => Run (e + 1) mX7_passHour 2 [some (vR a), some (vI ((i + 1 : Nat) : Int))] [] f Q) (wi_eq ?_)).mp ih1
        intro r k
        unfold fPass
        by_cases hk : k = i
        · subst hk
          by_cases hr : r = a + 1
          · subst hr
            simp [c']
          · simp [c', hr]
        · have h1 : k < i + 1 ↔ k < i := by omega
          simp [h1, hk]
  have h0 : wi M (fPass M a 0) = M := by
    refine (wi_eq (g := iv M) ?_).trans wi_self
    intro r k
    unfold fPass
    rw [if_neg (by omega), if_neg (by omega)]
  have := key _ 0 (by decide) rfl
  rw [h0] at this
  exact this
theorem s_copyMinds (hd : 2 ≤ d) (hS : Shp M) (ha : isSt a = true) (hb : isSt b = true) (hab : a ≠ b) (h : Q none (wi M (fCopy M a b))) : Call d mX7_copyMinds [vR a, vR b] M Q := by
  obtain ⟨e, rfl⟩ := dd (d := d) (by omega)
  have hne := st_ne ha hb
  refine vs_copyMinds ha hb (by omega) hS ?_
  have hx : ∀ k k', k < 8 → k' < 8 → ¬ (b + k = a + k') := fun k k' h1 h2 => by omega
  have hx0 : ∀ k', k' < 8 → ¬ (b = a + k') := fun k' h2 => by omega
  have hx1 : ∀ k, k < 8 → ¬ (b + k = a) := fun k h1 => by omega
  simp only [cpr_wi, si_wi, wi_wi, iv_wi]
  refine (congrArg (Q none) (wi_eq ?_)).mp h
  intro r i
  unfold fCopy
  have hba : ¬ b = a := fun q => hab q.symm
  simp [hx, hx0, hx1, hba]
end StateM2
