/-! STATES: what their methods do to the ints of the memory -/
/-- the same memory with other ints -/
def wi (M : jM) (f : Nat → Nat → Int) : jM := (M.1, M.2.1, M.2.2.1, f, M.2.2.2.2.1, M.2.2.2.2.2)
theorem iv_wi {M : jM} {f : Nat → Nat → Int} : iv (wi M f) = f := rfl
theorem lg_wi {M : jM} {f : Nat → Nat → Int} : lg (wi M f) = lg M := rfl
theorem rv_wi {M : jM} {f : Nat → Nat → Int} : rv (wi M f) = rv M := rfl
theorem wi_wi {M : jM} {f g : Nat → Nat → Int} : wi (wi M f) g = wi M g := rfl
theorem wi_self {M : jM} : wi M (iv M) = M := rfl
theorem wi_eq {M : jM} {f g : Nat → Nat → Int} (h : ∀ r i, f r i = g r i) : wi M f = wi M g := by
  have : f = g := by funext r i; exact h r i
  rw [this]
theorem si_wi {M : jM} {r i : Nat} {z : Int} : si M r i z = wi M (fun r' i' => if r' = r ∧ i' = i then z else iv M r' i') := rfl
theorem ptv_wi {M : jM} {n r : Nat} {i v : Int} : ptv M n r i v = wi M (fun r' i' => if r' = r ∧ (i' : Int) = i ∧ (i' : Int) < n then v else iv M r' i') := rfl
theorem cpr_wi {M : jM} {f t k : Nat} : cpr M f t k = wi M (fun r i => if r = t ∧ i < k then iv M f i else iv M r i) := rfl
theorem Shp.wi {M : jM} {f : Nat → Nat → Int} (h : Shp M) : Shp (wi M f) := h
theorem atv_n {M : jM} {n r i : Nat} (h : i < n) : atv M n r (i : Int) = iv M r i := by
  unfold atv
  rw [if_pos ⟨by omega, by omega⟩, Int.toNat_natCast]
theorem atv_i {M : jM} {n r : Nat} {i : Int} (h : 0 ≤ i ∧ i < n) : atv M n r i = iv M r i.toNat := by
  unfold atv
  rw [if_pos h]
theorem ptv_n {M : jM} {n r i : Nat} {v : Int} (h : i < n) : ptv M n r (i : Int) v = wi M (fun r' i' => if r' = r ∧ i' = i then v else iv M r' i') := by
  rw [ptv_in ⟨by omega, by omega⟩, Int.toNat_natCast, si_wi]
/-- the first empty place of a mind -/
def fE (w : Nat → Int) (q : Nat) : Int := if w (4 * q) = -1 then 0 else if w (4 * q + 1) = -1 then 1 else if w (4 * q + 2) = -1 then 2 else if w (4 * q + 3) = -1 then 3 else -1
/-- a weight, summed up to the n-th place -/
def wtF (w m : Nat → Int) (p s0 : Int) : Nat → Int
  | 0 => s0
  | n + 1 => if w n = p then rnd (wtF w m p s0 n + m n) else wtF w m p s0 n
def cntF (w : Nat → Int) : Nat → Int
  | 0 => 0
  | n + 1 => if w n = -1 then cntF w n else cntF w n + 1
def ofF (w : Nat → Int) (p : Int) : Nat → Int
  | 0 => 0
  | n + 1 => if w n = p then ofF w p n + 1 else ofF w p n
def heavF (w m : Nat → Int) (p : Int) : Nat → Int
  | 0 => -1
  | n + 1 => if w n = p ∧ (heavF w m p n = -1 ∨ m (heavF w m p n).toNat < m n) then n else heavF w m p n
def oldF (w g : Nat → Int) : Nat → Int
  | 0 => -1
  | n + 1 => if w n ≠ -1 ∧ oldF w g n < g n then g n else oldF w g n
def thkF (w : Nat → Int) (q : Nat) (p : Int) : Int := if w (4 * q) = p ∨ w (4 * q + 1) = p ∨ w (4 * q + 2) = p ∨ w (4 * q + 3) = p then 1 else 0
theorem rnd_le {x : Int} (h : 0 ≤ x) : rnd x ≤ x + x / 16777216 := by
  unfold rnd
  split
  · have := Int.ediv_nonneg h (show (0 : Int) ≤ 16777216 by decide); omega
  · rename_i hb
    have hx0 : 0 < x := by
      rcases Int.lt_or_le 0 x with h1 | h1
      · exact h1
      · exfalso; unfold bl at hb; rw [if_pos h1] at hb; omega
    obtain ⟨c, hc⟩ : ∃ c, bl x = c + 25 := ⟨bl x - 25, by omega⟩
    have h1 := (bl_le hx0 (c + 24)).mpr (by omega)
    rw [show bl x - 24 = c + 1 by omega, show bl x - 25 = c by omega]
    have hp0 := Nat.two_pow_pos c
    have hpp : ((2 ^ (c + 1) : Nat) : Int) = 2 * ((2 ^ c : Nat) : Int) := by rw [Nat.pow_succ']; rfl
    rw [Nat.pow_add, Int.natCast_mul] at h1
    have h2 : ((2 ^ c : Nat) : Int) ≤ x / 16777216 := (Int.le_ediv_iff_mul_le (by decide)).mpr h1
    have hdm := Int.mul_ediv_add_emod x ((2 ^ (c + 1) : Nat) : Int)
    have hm := Int.emod_nonneg x (b := ((2 ^ (c + 1) : Nat) : Int)) (by omega)
    rw [Int.mul_comm] at hdm
    split
    · rename_i hup
      rw [Int.add_mul, Int.one_mul]
      omega
    · have := Int.ediv_nonneg h (show (0 : Int) ≤ 16777216 by decide); omega
theorem wtF_in {w m : Nat → Int} {p s0 : Int} (h0 : 0 ≤ s0 ∧ s0 ≤ 134217728) : ∀ n, n ≤ 32 → (∀ j, j < n → 0 ≤ m j ∧ m j ≤ 134217728) → 0 ≤ wtF w m p s0 n ∧ wtF w m p s0 n ≤ 268435456 * ((n : Int) + 1) := by
  intro n
  induction n with
  | zero => intro _ _; exact ⟨h0.1, by simp only [wtF]; omega⟩
  | succ n ih =>
    intro hn hm
    obtain ⟨a, b⟩ := ih (by omega) (fun j hj => hm j (by omega))
    obtain ⟨c1, c2⟩ := hm n (by omega)
    simp only [wtF]
    split
    · have h1 := rnd_nonneg (x := wtF w m p s0 n + m n) (by omega)
      have h2 := rnd_le (x := wtF w m p s0 n + m n) (by omega)
      refine ⟨h1, ?_⟩
      have h3 : (wtF w m p s0 n + m n) / 16777216 ≤ 600 := by omega
      omega
    · omega
section StateM
variable {d : Nat} {M : jM} {Q : Option jV → jM → Prop} {a : Nat}
theorem s_emptyPlace {q : Nat} (hd : 2 ≤ d) (hS : Shp M) (ha : isSt a = true) (hq : q < 8) (h : Q (some (vI (fE (iv M (a + 1)) q))) M) : Call d mX7_emptyPlace [vR a, vI (q : Int)] M Q := by
  obtain ⟨e, rfl⟩ := dd (d := d) (by omega)
  have hw : ∀ p : Nat, p < 4 → atv M 32 (a + 1) (w32 (w32 ((q : Int) * 4) + (p : Int))) = iv M (a + 1) (4 * q + p) := by
    intro p hp
    rw [w32_id (z := (q : Int) * 4) ⟨by omega, by omega⟩, w32_id (z := (q : Int) * 4 + p) ⟨by omega, by omega⟩, show (q : Int) * 4 + p = ((4 * q + p : Nat) : Int) by omega]
    exact atv_n (by omega)
  unfold fE at h
  refine vs_emptyPlace ha (by omega) hS ?_
  refine vs_emptyPlace_2 ha (by omega) hS ⟨fun c => absurd c (by decide), fun _ => ⟨fun c => ?_, fun c => ?_⟩⟩
  · have c' := c; rw [show (0 : Int) = ((0 : Nat) : Int) from rfl, hw 0 (by decide)] at c'
    rw [if_neg (show ¬ iv M (a + 1) (4 * q) = -1 from c')] at h
    refine vs_emptyPlace_2 ha (by omega) hS ⟨fun c => absurd c (by decide), fun _ => ⟨fun c => ?_, fun c => ?_⟩⟩
    · have c' := c; rw [show w32 (0 + 1) = ((1 : Nat) : Int) from rfl, hw 1 (by decide)] at c'
      rw [if_neg c'] at h
      refine vs_emptyPlace_2 ha (by omega) hS ⟨fun c => absurd c (by decide), fun _ => ⟨fun c => ?_, fun c => ?_⟩⟩
      · have c' := c; rw [show w32 (w32 (0 + 1) + 1) = ((2 : Nat) : Int) from rfl, hw 2 (by decide)] at c'
        rw [if_neg c'] at h
        refine vs_emptyPlace_2 ha (by omega) hS ⟨fun c => absurd c (by decide), fun _ => ⟨fun c => ?_, fun c => ?_⟩⟩
        · have c' := c; rw [show w32 (w32 (w32 (0 + 1) + 1) + 1) = ((3 : Nat) : Int) from rfl, hw 3 (by decide)] at c'
          rw [if_neg c'] at h
          exact vs_emptyPlace_2 ha (by omega) hS ⟨fun c => h, fun c => absurd c (by decide)⟩
        · have c' := c; rw [show w32 (w32 (w32 (0 + 1) + 1) + 1) = ((3 : Nat) : Int) from rfl, hw 3 (by decide)] at c'
          rw [if_pos (by simpa using c')] at h
          exact h
      · have c' := c; rw [show w32 (w32 (0 + 1) + 1) = ((2 : Nat) : Int) from rfl, hw 2 (by decide)] at c'
        rw [if_pos (by simpa using c')] at h
        exact h
    · have c' := c; rw [show w32 (0 + 1) = ((1 : Nat) : Int) from rfl, hw 1 (by decide)] at c'
      rw [if_pos (by simpa using c')] at h
      exact h
  · have c' := c; rw [show (0 : Int) = ((0 : Nat) : Int) from rfl, hw 0 (by decide)] at c'
    rw [if_pos (show iv M (a + 1) (4 * q) = -1 by simpa using c')] at h
    exact h
/-- what lay does -/
def fLay (M : jM) (a j : Nat) (w k s : Int) : Nat → Nat → Int := fun r i => if i = j ∧ r = a + 1 then w else if i = j ∧ r = a + 2 then k else if i = j ∧ r = a + 3 then s else if i = j ∧ r = a + 4 then 0 else iv M r i
theorem s_lay {q p : Nat} {w k s : Int} (hd : 2 ≤ d) (hS : Shp M) (ha : isSt a = true) (hq : q < 8) (hp : p < 4) (h : Q none (wi M (fLay M a (4 * q + p) w k s))) : Call d mX7_lay [vR a, vI (q : Int), vI (p : Int), vI w, vI k, vI s] M Q := by
  obtain ⟨e, rfl⟩ := dd (d := d) (by omega)
  have hw : w32 (w32 ((q : Int) * 4) + (p : Int)) = ((4 * q + p : Nat) : Int) := by
    rw [w32_id (z := (q : Int) * 4) ⟨by omega, by omega⟩, w32_id (z := (q : Int) * 4 + p) ⟨by omega, by omega⟩]
    omega
  refine vs_lay ha (by omega) hS ⟨fun _ => ?_, fun c => absurd (show fP (p : Int) ≠ 0 by unfold fP; rw [if_pos ⟨by omega, by omega⟩]; decide) c⟩
  rw [hw]
  simp only [ptv_wi, wi_wi, iv_wi]
  refine (congrArg (Q none) (wi_eq ?_)).mp h
  intro r i
  unfold fLay
  by_cases hi : i = 4 * q + p
  · subst hi
    by_cases h1 : r = a + 1
    · subst h1; simp
      omega
    · by_cases h2 : r = a + 2
      · subst h2; simp
        omega
      · by_cases h3 : r = a + 3
        · subst h3; simp
          omega
        · by_cases h4 : r = a + 4
          · subst h4; simp
            omega
          · simp [h1, h2, h3, h4]
  · have : ¬ ((i : Int) = 4 * (q : Int) + p) := by omega
    simp [hi, this]
theorem s_lay_no {q p w k s : Int} (hd : 2 ≤ d) (hS : Shp M) (ha : isSt a = true) (hp : p < 0 ∨ 4 ≤ p) (h : Q none M) : Call d mX7_lay [vR a, vI q, vI p, vI w, vI k, vI s] M Q := by
  obtain ⟨e, rfl⟩ := dd (d := d) (by omega)
  refine vs_lay ha (by omega) hS ⟨fun c => absurd c (by unfold fP; rw [if_neg (by omega)]; decide), fun _ => h⟩
theorem s_weight {p : Nat} (hd : 2 ≤ d) (hS : Shp M) (ha : isSt a = true) (hp : p < 8) (hb : 0 ≤ iv M (a + 6) p ∧ iv M (a + 6) p ≤ 99) (hm : ∀ j, j < 32 → 0 ≤ iv M (a + 5) j ∧ iv M (a + 5) j ≤ 134217728) (h : Q (some (vL (wtF (iv M (a + 1)) (iv M (a + 5)) p (1000 * iv M (a + 6) p) 32))) M) : Call d mX7_weight [vR a, vI (p : Int)] M Q := by
  obtain ⟨e, rfl⟩ := dd (d := d) (by omega)
  refine vs_weight ha (by omega) hS ?_
  rw [atv_n (show p < 8 from hp), w64_id (z := 1000 * iv M (a + 6) p) ⟨by omega, by omega⟩]
  have key : ∀ (j i : Nat), i ≤ 32 → 32 - i = j → Run (e + 1) mX7_weight 17 [some (vR a), some (vI (p : Int)), some (vL (wtF (iv M (a + 1)) (iv M (a + 5)) p (1000 * iv M (a + 6) p) i)), none, some (vI (i : Int))] [] M Q := by
    intro j
    induction j with
    | zero =>
      intro i hi hj
      obtain rfl : i = 32 := by omega
      exact vs_weight_17 ha (by omega) hS ⟨fun _ => h, fun c => absurd c (by decide)⟩
    | succ j ih =>
      intro i hi hj
      have hi2 : i < 32 := by omega
      obtain ⟨b1, b2⟩ := wtF_in (w := iv M (a + 1)) (m := iv M (a + 5)) (p := (p : Int)) (s0 := 1000 * iv M (a + 6) p) ⟨by omega, by omega⟩ i (by omega) (fun j hj => hm j (by omega))
      obtain ⟨m1, m2⟩ := hm i hi2
      have ih1 := ih (i + 1) (by omega) (by omega)
      have hw : w32 ((i : Int) + 1) = ((i + 1 : Nat) : Int) := by rw [w32_id (z := (i : Int) + 1) ⟨by omega, by omega⟩]; omega
      refine vs_weight_17 ha (by omega) hS ⟨fun c => absurd c (by omega), fun _ => ⟨fun c => ?_, fun c => ?_⟩⟩
      · rw [atv_n hi2] at c
        rw [hw]
        simp only [wtF] at ih1
        rw [if_neg c] at ih1
        exact ih1
      · rw [atv_n hi2] at c
        rw [hw, atv_n hi2, w64_id (z := _ + _) ⟨by omega, by omega⟩]
        simp only [wtF] at ih1
        rw [if_pos (by simpa using c)] at ih1
        exact ⟨⟨by omega, by omega⟩, ih1⟩
  exact key _ 0 (by decide) rfl
end StateM
