/-! more of rounding; sums -/
theorem bl_0 {x : Int} (h : ¬ bl x ≤ 24) : 0 < x := by
  rcases Int.lt_or_le 0 x with h1 | h1
  · exact h1
  · exfalso; unfold bl at h; rw [if_pos h1] at h; omega
theorem rnd_pos {x : Int} (h : 0 < x) : 0 < rnd x := by
  unfold rnd
  split
  · exact h
  · rename_i hb
    have h1 := (bl_le h (bl x - 24)).mpr (by omega)
    have hp := Nat.two_pow_pos (bl x - 24)
    have h2 : 1 ≤ x / ((2 ^ (bl x - 24) : Nat) : Int) := (Int.le_ediv_iff_mul_le (by omega)).mpr (by omega)
    exact Int.mul_pos (by split <;> omega) (by omega)
theorem rnd_small {x : Int} (h : x < 16777216) : rnd x = x := by
  unfold rnd
  rw [if_pos]
  rcases Int.lt_or_le 0 x with h1 | h1
  · exact (bl_lt h1 24).mp (by omega)
  · unfold bl; rw [if_pos h1]; omega
theorem rnd_ge {x : Int} {k : Nat} (hk : ((2 ^ k : Nat) : Int) ≤ x) : ((2 ^ k : Nat) : Int) ≤ rnd x := by
  have hk0 := Nat.two_pow_pos k
  have h0 : 0 < x := by omega
  unfold rnd
  split
  · exact hk
  · rename_i hb
    obtain ⟨c, hc⟩ : ∃ c, bl x = c + 24 := ⟨bl x - 24, by omega⟩
    rw [show bl x - 24 = c by omega, show bl x - 25 = c - 1 by omega]
    have hp := Nat.two_pow_pos c
    have hkc := (bl_le h0 k).mp hk
    have hlo := (bl_le h0 (c + 23)).mpr (by omega)
    have hq : ((2 ^ 23 : Nat) : Int) ≤ x / ((2 ^ c : Nat) : Int) := by
      refine (Int.le_ediv_iff_mul_le (by omega)).mpr ?_
      rw [← Int.natCast_mul, ← Nat.pow_add, show 23 + c = c + 23 by omega]
      exact hlo
    have hk2 : (2 ^ k : Nat) ≤ 2 ^ (23 + c) := Nat.pow_le_pow_right (by decide) (by omega)
    rw [Nat.pow_add] at hk2
    have h3 : ((2 ^ 23 : Nat) : Int) * ((2 ^ c : Nat) : Int) ≤ (if x % ((2 ^ c : Nat) : Int) > ((2 ^ (c - 1) : Nat) : Int) ∨ x % ((2 ^ c : Nat) : Int) = ((2 ^ (c - 1) : Nat) : Int) ∧ x / ((2 ^ c : Nat) : Int) % 2 = 1 then x / ((2 ^ c : Nat) : Int) + 1 else x / ((2 ^ c : Nat) : Int)) * ((2 ^ c : Nat) : Int) := Int.mul_le_mul_of_nonneg_right (by split <;> omega) (by omega)
    rw [← Int.natCast_mul] at h3
    omega
theorem rnd_mono {x y : Int} (h0 : 0 ≤ x) (h : x ≤ y) : rnd x ≤ rnd y := by
  rcases Int.lt_or_le 0 x with hx | hx
  · have hy : 0 < y := by omega
    have hbb : bl x ≤ bl y := (bl_lt hx (bl y)).mp (by have := (bl_lt hy (bl y)).mpr (Nat.le_refl _); omega)
    have bx := bl_pos hx
    rcases Nat.lt_or_ge (bl x) (bl y) with c | c
    · have h1 : x ≤ ((2 ^ (bl x) : Nat) : Int) := by have := (bl_lt hx (bl x)).mpr (Nat.le_refl _); omega
      have h2 := rnd_pow h0 h1
      have h3 := (bl_le hy (bl x)).mpr c
      have h4 := rnd_ge h3
      omega
    · have hb : bl y = bl x := by omega
      unfold rnd
      rw [hb]
      split
      · exact h
      · have hp := Nat.two_pow_pos (bl x - 24)
        refine Int.mul_le_mul_of_nonneg_right ?_ (by omega)
        have hq : x / ((2 ^ (bl x - 24) : Nat) : Int) ≤ y / ((2 ^ (bl x - 24) : Nat) : Int) := Int.ediv_le_ediv (by omega) h
        have dx := Int.mul_ediv_add_emod x ((2 ^ (bl x - 24) : Nat) : Int)
        have dy := Int.mul_ediv_add_emod y ((2 ^ (bl x - 24) : Nat) : Int)
        generalize ((2 ^ (bl x - 25) : Nat) : Int) = half at *
        rcases Int.lt_or_eq_of_le hq with z | z
        · split <;> split <;> omega
        · rw [← z] at dy ⊢
          have : x % ((2 ^ (bl x - 24) : Nat) : Int) ≤ y % ((2 ^ (bl x - 24) : Nat) : Int) := by omega
          split <;> split <;> omega
  · have : x = 0 := by omega
    rw [this, rnd_small (x := 0) (by omega)]
    exact rnd_nonneg (by omega)
theorem rnd_mul {z : Int} {c : Nat} (hz : 0 ≤ z ∧ z ≤ 16777216) : rnd (z * ((2 ^ c : Nat) : Int)) = z * ((2 ^ c : Nat) : Int) := by
  have hp := Nat.two_pow_pos c
  have p24 : ((2 ^ 24 : Nat) : Int) = 16777216 := rfl
  unfold rnd
  split
  · rfl
  · rename_i hb
    have hy := bl_0 hb
    obtain ⟨g, hg⟩ : ∃ g, bl (z * ((2 ^ c : Nat) : Int)) = g + 24 := ⟨bl (z * ((2 ^ c : Nat) : Int)) - 24, by omega⟩
    rw [show bl (z * ((2 ^ c : Nat) : Int)) - 24 = g by omega, show bl (z * ((2 ^ c : Nat) : Int)) - 25 = g - 1 by omega]
    have hdvd : ((2 ^ g : Nat) : Int) ∣ z * ((2 ^ c : Nat) : Int) := by
      by_cases c2 : z = 16777216
      · have hle : z * ((2 ^ c : Nat) : Int) < ((2 ^ (c + 25) : Nat) : Int) := by
          rw [c2, Nat.pow_add, Int.natCast_mul]
          have p25 : ((2 ^ 25 : Nat) : Int) = 33554432 := rfl
          rw [p25]
          omega
        have := (bl_lt hy (c + 25)).mp hle
        rw [c2, ← p24, ← Int.natCast_mul, ← Nat.pow_add]
        exact Int.natCast_dvd_natCast.mpr (Nat.pow_dvd_pow 2 (by omega))
      · have hle : z * ((2 ^ c : Nat) : Int) < ((2 ^ (c + 24) : Nat) : Int) := by
          rw [Nat.pow_add, Int.natCast_mul, p24, Int.mul_comm]
          exact Int.mul_lt_mul_of_pos_left (by omega) (by omega)
        have := (bl_lt hy (c + 24)).mp hle
        have h1 : ((2 ^ g : Nat) : Int) ∣ ((2 ^ c : Nat) : Int) := Int.natCast_dvd_natCast.mpr (Nat.pow_dvd_pow 2 (by omega))
        exact Int.dvd_trans h1 (Int.dvd_mul_left _ _)
    have hp2 := Nat.two_pow_pos (g - 1)
    rw [Int.emod_eq_zero_of_dvd hdvd, if_neg (by omega)]
    exact Int.ediv_mul_cancel hdvd
theorem rnd_idem {x : Int} (h : 0 ≤ x) : rnd (rnd x) = rnd x := by
  by_cases hb : bl x ≤ 24
  · have : rnd x = x := by unfold rnd; rw [if_pos hb]
    rw [this, this]
  · have hx := bl_0 hb
    have hp := Nat.two_pow_pos (bl x - 24)
    have he : rnd x = (if x % (2 ^ (bl x - 24) : Nat) > (2 ^ (bl x - 25) : Nat) ∨ (x % (2 ^ (bl x - 24) : Nat) = (2 ^ (bl x - 25) : Nat) ∧ x / (2 ^ (bl x - 24) : Nat) % 2 = 1) then x / (2 ^ (bl x - 24) : Nat) + 1 else x / (2 ^ (bl x - 24) : Nat)) * (2 ^ (bl x - 24) : Nat) := by
      unfold rnd
      rw [if_neg hb]
    have hq0 : 0 ≤ x / ((2 ^ (bl x - 24) : Nat) : Int) := Int.ediv_nonneg h (by omega)
    have hq1 : x / ((2 ^ (bl x - 24) : Nat) : Int) < 16777216 := by
      have h2 := (bl_lt hx (24 + (bl x - 24))).mpr (by omega)
      rw [Nat.pow_add] at h2
      refine Int.ediv_lt_of_lt_mul (by omega) ?_
      rw [show (16777216 : Int) * ((2 ^ (bl x - 24) : Nat) : Int) = ((2 ^ 24 * 2 ^ (bl x - 24) : Nat) : Int) by rw [Int.natCast_mul]; rfl]
      exact h2
    rw [he]
    exact rnd_mul (by split <;> omega)
theorem wtF_pos {w m : Nat → Int} {p s0 : Int} (h0 : 0 < s0) : ∀ n, (∀ j, j < n → 0 ≤ m j) → 0 < wtF w m p s0 n
  | 0, _ => h0
  | n + 1, hm => by
    have ih := wtF_pos (w := w) (m := m) (p := p) h0 n (fun j hj => hm j (by omega))
    have := hm n (by omega)
    simp only [wtF]
    split
    · exact rnd_pos (by omega)
    · exact ih
/-- weights are rounded -/
theorem wtF_rnd {w m : Nat → Int} {p s0 : Int} (h0 : 0 ≤ s0 ∧ s0 < 16777216) : ∀ n, (∀ j, j < n → 0 ≤ m j) → 0 ≤ wtF w m p s0 n ∧ rnd (wtF w m p s0 n) = wtF w m p s0 n
  | 0, _ => ⟨h0.1, rnd_small h0.2⟩
  | n + 1, hm => by
    obtain ⟨i1, i2⟩ := wtF_rnd (w := w) (m := m) (p := p) h0 n (fun j hj => hm j (by omega))
    have := hm n (by omega)
    simp only [wtF]
    split
    · exact ⟨rnd_nonneg (by omega), rnd_idem (by omega)⟩
    · exact ⟨i1, i2⟩
theorem wtS_pos {I : jI} {s : jS} {n p : Nat} (hI : WI I) (h : GS n s) (hp : p < n) : 0 < wtS (pW I s) p := by
  rw [wtS_pW]
  have := h.2.1 p hp
  exact wtF_pos (by omega) 32 (fun j hj => (massS_in hI hj).1)
theorem wtS_rnd {I : jI} {s : jS} {n p : Nat} (hI : WI I) (h : WS n s) (hp : p < 8) : rnd (wtS (pW I s) p) = wtS (pW I s) p := by
  rw [wtS_pW]
  have := h.2.2.1 p hp
  exact (wtF_rnd (by omega) 32 (fun j hj => (massS_in hI hj).1)).2
/-- grain -/
def grF (x : Int) : Int := if hft x ≤ 23 then x * ((2 ^ (23 - hft x).toNat : Nat) : Int) - 8388608 else x / ((2 ^ (hft x - 23).toNat : Nat) : Int) - 8388608
theorem hft_in {x : Int} (h : 0 < x ∧ x < 4611686018427387904) : 0 ≤ hft x ∧ hft x ≤ 61 ∧ ((2 ^ (hft x).toNat : Nat) : Int) ≤ x ∧ x < ((2 ^ ((hft x).toNat + 1) : Nat) : Int) := by
  have h1 := bl_pos h.1
  have h2 := (bl_lt h.1 62).mp (by have : ((2 ^ 62 : Nat) : Int) = 4611686018427387904 := rfl; omega)
  unfold hft
  refine ⟨by omega, by omega, (bl_le h.1 _).mpr (by omega), (bl_lt h.1 _).mpr (by omega)⟩
theorem grain_lo {x : Int} (h : 0 < x ∧ x < 4611686018427387904) (hh : hft x ≤ 23) : 8388608 ≤ x * ((2 ^ (23 - hft x).toNat : Nat) : Int) ∧ x * ((2 ^ (23 - hft x).toNat : Nat) : Int) < 16777216 := by
  obtain ⟨a1, a2, a3, a4⟩ := hft_in h
  have hp := Nat.two_pow_pos (23 - hft x).toNat
  have e1 : ((2 ^ (hft x).toNat : Nat) : Int) * ((2 ^ (23 - hft x).toNat : Nat) : Int) = 8388608 := by
    rw [← Int.natCast_mul, ← Nat.pow_add, show (hft x).toNat + (23 - hft x).toNat = 23 by omega]; rfl
  have e2 : ((2 ^ ((hft x).toNat + 1) : Nat) : Int) * ((2 ^ (23 - hft x).toNat : Nat) : Int) = 16777216 := by
    rw [← Int.natCast_mul, ← Nat.pow_add, show (hft x).toNat + 1 + (23 - hft x).toNat = 24 by omega]; rfl
  have m1 := Int.mul_le_mul_of_nonneg_right (c := ((2 ^ (23 - hft x).toNat : Nat) : Int)) a3 (by omega)
  have m2 := Int.mul_lt_mul_of_pos_right (c := ((2 ^ (23 - hft x).toNat : Nat) : Int)) a4 (by omega)
  omega
theorem grain_hi {x : Int} (h : 0 < x ∧ x < 4611686018427387904) (hh : ¬ hft x ≤ 23) : 8388608 ≤ x / ((2 ^ (hft x - 23).toNat : Nat) : Int) ∧ x / ((2 ^ (hft x - 23).toNat : Nat) : Int) < 16777216 := by
  obtain ⟨a1, a2, a3, a4⟩ := hft_in h
  have hp := Nat.two_pow_pos (hft x - 23).toNat
  have e1 : (8388608 : Int) * ((2 ^ (hft x - 23).toNat : Nat) : Int) = ((2 ^ (hft x).toNat : Nat) : Int) := by
    rw [show (8388608 : Int) = ((2 ^ 23 : Nat) : Int) from rfl, ← Int.natCast_mul, ← Nat.pow_add, show 23 + (hft x - 23).toNat = (hft x).toNat by omega]
  have e2 : (16777216 : Int) * ((2 ^ (hft x - 23).toNat : Nat) : Int) = ((2 ^ ((hft x).toNat + 1) : Nat) : Int) := by
    rw [show (16777216 : Int) = ((2 ^ 24 : Nat) : Int) from rfl, ← Int.natCast_mul, ← Nat.pow_add, show 24 + (hft x - 23).toNat = (hft x).toNat + 1 by omega]
  exact ⟨(Int.le_ediv_iff_mul_le (by omega)).mpr (by omega), Int.ediv_lt_of_lt_mul (by omega) (by omega)⟩
section GrainS
variable {d : Nat} {M : jM} {Q : Option jV → jM → Prop}
theorem c_grainOf {x : Int} (hd : 5 ≤ d) (hS : Shp M) (hx : 0 < x ∧ x < 4611686018427387904) (h : Q (some (vI (grF x))) M) : Call d mX10_grainOf [vL x] M Q := by
  obtain ⟨e, rfl⟩ := dd (d := d) (by omega)
  obtain ⟨a1, a2, a3, a4⟩ := hft_in hx
  refine vx_grainOf (by omega) hS ⟨hx, fun v2 hv2 => ?_⟩
  unfold grF at h
  have hm : ∀ y : Int, 8388608 ≤ y → y < 16777216 → w32 (jandL y 8388607) = y - 8388608 := by
    intro y h1 h2
    rw [show (8388607 : Int) = ((2 ^ 23 - 1 : Nat) : Int) from rfl, jandL_mask y 23 (by decide)]
    have e23 : ((2 ^ 23 : Nat) : Int) = 8388608 := rfl
    rw [e23, w32_i (by omega) (by omega)]
    omega
  by_cases c : hft x ≤ 23
  · rw [if_pos c] at h
    obtain ⟨g1, g2⟩ := grain_lo hx c
    rw [if_pos c, w32_i (by omega) (by omega), jshlL_eq ⟨by omega, by omega⟩, w64_i (by omega) (by omega)] at hv2
    rw [hv2, hm _ g1 g2]
    exact h
  · rw [if_neg c] at h
    obtain ⟨g1, g2⟩ := grain_hi hx c
    rw [if_neg c, w32_i (by omega) (by omega), jshrL_eq ⟨by omega, by omega⟩ ⟨by omega, by omega⟩] at hv2
    rw [hv2, hm _ g1 g2]
    exact h
end GrainS
/-- sums -/
def sumF (f : Nat → Int) : Nat → Int
  | 0 => 0
  | n + 1 => sumF f n + f n
theorem sumF_cg {f g : Nat → Int} : ∀ n, (∀ j, j < n → f j = g j) → sumF f n = sumF g n
  | 0, _ => rfl
  | n + 1, h => by
    simp only [sumF]
    rw [sumF_cg n (fun j hj => h j (by omega)), h n (by omega)]
theorem sumF_0 : ∀ n, sumF (fun _ => 0) n = 0
  | 0 => rfl
  | n + 1 => by simp only [sumF]; rw [sumF_0 n]; rfl
theorem sumF_add {f g : Nat → Int} : ∀ n, sumF (fun j => f j + g j) n = sumF f n + sumF g n
  | 0 => rfl
  | n + 1 => by simp only [sumF]; rw [sumF_add n]; omega
theorem sumF_swap {f : Nat → Nat → Int} (k : Nat) : ∀ n, sumF (fun i => sumF (fun j => f i j) k) n = sumF (fun j => sumF (fun i => f i j) n) k
  | 0 => by
    simp only [sumF]
    exact (sumF_0 k).symm
  | n + 1 => by
    simp only [sumF]
    rw [sumF_swap k n, ← sumF_add]
/-- sums over a part -/
theorem sumF_lt {f : Nat → Int} (k : Nat) : ∀ n, sumF (fun j => if j < k then f j else 0) n = sumF f (min n k)
  | 0 => by rw [Nat.zero_min]; rfl
  | n + 1 => by
    simp only [sumF]
    rw [sumF_lt k n]
    by_cases c : n < k
    · rw [if_pos c, show min n k = n by omega, show min (n + 1) k = n + 1 by omega]; rfl
    · rw [if_neg c, show min (n + 1) k = min n k by omega]; omega
