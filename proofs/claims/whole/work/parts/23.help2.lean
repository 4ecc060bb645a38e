/-! heft, grain, length; bytes -/
section Helpers3
variable {d : Nat} {M : jM} {Q : Option jV → jM → Prop}
def hft (x : Int) : Int := (bl x : Int) - 1
theorem heft_step {x p s s2 : Int} {e k : Nat} (hx : 0 < x ∧ x < 4611686018427387904) (hs : s = (2 ^ k : Nat)) (hk : k ≤ 5) (hs2 : jshr s 1 = s2) (hp : 0 ≤ p) (hps : p + 2 * s ≤ 64) (h : Run (e + 1) mX10_heftOf 5 [some (vL x), none, some (vI (if p + s < bl x then p + s else p)), some (vI s2)] [] M Q) : Run (e + 1) mX10_heftOf 5 [some (vL x), none, some (vI p), some (vI s)] [] M Q := by
  have h0 := Nat.two_pow_pos k
  have hw : w32 (p + s) = p + s := w32_id ⟨by omega, by omega⟩
  have hsh : jshrL x (p + s) = x / (2 ^ (p + s).toNat : Nat) := jshrL_eq ⟨by omega, by omega⟩ ⟨by omega, by omega⟩
  have hiff : x / (2 ^ (p + s).toNat : Nat) ≤ 0 ↔ ¬ (p + s < bl x) := by
    have h1 := bl_le hx.1 (p + s).toNat
    have h2 := div_le_iff (x := x) (k := (p + s).toNat) (y := 1)
    rw [Int.one_mul] at h2
    constructor
    · intro a b
      have := h1.mpr (by omega)
      have := h2.mpr this
      omega
    · intro a
      rcases Int.lt_or_le 0 (x / (2 ^ (p + s).toNat : Nat)) with c | c
      · have := h2.mp c
        have := h1.mp this
        omega
      · exact c
  refine vc_heftOf_5 ⟨fun c => absurd c (by omega), fun c => ⟨fun c2 => ?_, fun c2 => ?_⟩⟩
  · rw [hw, jcmp_le, hsh, hiff] at c2
    rw [hs2]
    rw [if_neg c2] at h
    exact h
  · rw [hw, jcmp_le, hsh, hiff] at c2
    rw [hs2, hw]
    rw [if_pos (by omega)] at h
    exact h
theorem c_heftOf {x : Int} (hd : 1 ≤ d) (hx : 0 < x ∧ x < 4611686018427387904) (h : Q (some (vI (hft x))) M) : Call d mX10_heftOf [vL x] M Q := by
  obtain ⟨e, rfl⟩ := dd hd
  refine vc_heftOf ?_
  have hb := bl_pos hx.1
  have hb2 := (bl_lt hx.1 62).mp (by omega)
  refine heft_step (k := 5) hx rfl (by decide) (s2 := 16) (by decide +kernel) (by omega) (by omega) ?_
  refine heft_step (k := 4) hx rfl (by decide) (s2 := 8) (by decide +kernel) (by split <;> omega) (by split <;> omega) ?_
  refine heft_step (k := 3) hx rfl (by decide) (s2 := 4) (by decide +kernel) (by repeat' split <;> omega) (by repeat' split <;> omega) ?_
  refine heft_step (k := 2) hx rfl (by decide) (s2 := 2) (by decide +kernel) (by repeat' split <;> omega) (by repeat' split <;> omega) ?_
  refine heft_step (k := 1) hx rfl (by decide) (s2 := 1) (by decide +kernel) (by repeat' split <;> omega) (by repeat' split <;> omega) ?_
  refine heft_step (k := 0) hx rfl (by decide) (s2 := 0) (by decide +kernel) (by repeat' split <;> omega) (by repeat' split <;> omega) ?_
  refine vc_heftOf_5 ⟨fun _ => ?_, fun c => absurd (by omega) c⟩
  have he : ∀ (a b c' d' e' f : Int), a = (if (0 : Int) + 32 < bl x then (0 : Int) + 32 else 0) → b = (if a + 16 < bl x then a + 16 else a) → c' = (if b + 8 < bl x then b + 8 else b) → d' = (if c' + 4 < bl x then c' + 4 else c') → e' = (if d' + 2 < bl x then d' + 2 else d') → f = (if e' + 1 < bl x then e' + 1 else e') → f = hft x := by
    intro a b c' d' e' f h1 h2 h3 h4 h5 h6
    unfold hft
    split at h1 <;> split at h2 <;> split at h3 <;> split at h4 <;> split at h5 <;> split at h6 <;> omega
  rw [he _ _ _ _ _ _ rfl rfl rfl rfl rfl rfl]
  exact h
theorem nlz_leaf {x : Int} (s : Nat) (h1 : ((2 ^ s : Nat) : Int) ≤ x) (h2 : x < ((2 ^ (s + 2) : Nat) : Int)) : (32 : Int) - bl x = 31 - s - x / ((2 ^ (s + 1) : Nat) : Int) := by
  have h0 : 0 < x := by have := Nat.two_pow_pos s; omega
  have a1 := (bl_le h0 s).mp h1
  have a2 := (bl_lt h0 (s + 2)).mp h2
  have a3 := bl_le h0 (s + 1)
  have hp := Nat.two_pow_pos (s + 1)
  have hpp : 2 ^ (s + 2) = 2 * 2 ^ (s + 1) := by rw [← Nat.pow_succ']
  by_cases c : ((2 ^ (s + 1) : Nat) : Int) ≤ x
  · have := a3.mp c
    have hd : x / ((2 ^ (s + 1) : Nat) : Int) = 1 := by
      have e1 := (div_le_iff (x := x) (k := s + 1) (y := 1)).mpr (by omega)
      have e2 : x / ((2 ^ (s + 1) : Nat) : Int) < 2 := Int.ediv_lt_of_lt_mul (by omega) (by omega)
      omega
    omega
  · have hd : x / ((2 ^ (s + 1) : Nat) : Int) = 0 := Int.ediv_eq_zero_of_lt (by omega) (by omega)
    have : ¬ (s + 1 < bl x) := fun q => c (a3.mpr q)
    omega
theorem ju16 {x : Int} (h : 0 ≤ x) (h2 : x < 2147483648) : jushr x 16 = x / 65536 := jushr_eq ⟨h, h2⟩ ⟨by decide, by decide⟩
theorem ju8 {x : Int} (h : 0 ≤ x) (h2 : x < 2147483648) : jushr x 8 = x / 256 := jushr_eq ⟨h, h2⟩ ⟨by decide, by decide⟩
theorem ju4 {x : Int} (h : 0 ≤ x) (h2 : x < 2147483648) : jushr x 4 = x / 16 := jushr_eq ⟨h, h2⟩ ⟨by decide, by decide⟩
theorem ju2 {x : Int} (h : 0 ≤ x) (h2 : x < 2147483648) : jushr x 2 = x / 4 := jushr_eq ⟨h, h2⟩ ⟨by decide, by decide⟩
theorem ju1 {x : Int} (h : 0 ≤ x) (h2 : x < 2147483648) : jushr x 1 = x / 2 := jushr_eq ⟨h, h2⟩ ⟨by decide, by decide⟩
set_option maxHeartbeats 4000000 in
theorem d_nlz32 {x : Int} (hd : 1 ≤ d) (hx : i32 x) (h : Q (some (vI (if x < 0 then 0 else 32 - bl x))) M) : Call d mJ6_numberOfLeadingZeros_0f7a4 [vI x] M Q := by
  obtain ⟨e, rfl⟩ := dd hd
  unfold i32 at hx
  refine vc_J6numberOfLeadingZeros ⟨fun h0 => ?_, fun h0 => ?_⟩
  · rw [if_neg (by omega)] at h
    simp (disch := omega) only [ju16, ju8, ju4, ju2, ju1]
    repeat' (first | apply And.intro | intro _)
    all_goals first
      | (rw [nlz_leaf 0 (show ((2 ^ 0 : Nat) : Int) ≤ x by show (1 : Int) ≤ x; omega) (show x < ((2 ^ 2 : Nat) : Int) by show x < (4 : Int); omega), show ((2 ^ (0 + 1) : Nat) : Int) = 2 from rfl] at h; refine (congrArg (fun z => Q (some (vI z)) M) ?_).mp h; unfold w32; omega)
      | (rw [nlz_leaf 2 (show ((2 ^ 2 : Nat) : Int) ≤ x by show (4 : Int) ≤ x; omega) (show x < ((2 ^ 4 : Nat) : Int) by show x < (16 : Int); omega), show ((2 ^ (2 + 1) : Nat) : Int) = 8 from rfl] at h; refine (congrArg (fun z => Q (some (vI z)) M) ?_).mp h; unfold w32; omega)
      | (rw [nlz_leaf 4 (show ((2 ^ 4 : Nat) : Int) ≤ x by show (16 : Int) ≤ x; omega) (show x < ((2 ^ 6 : Nat) : Int) by show x < (64 : Int); omega), show ((2 ^ (4 + 1) : Nat) : Int) = 32 from rfl] at h; refine (congrArg (fun z => Q (some (vI z)) M) ?_).mp h; unfold w32; omega)
      | (rw [nlz_leaf 6 (show ((2 ^ 6 : Nat) : Int) ≤ x by show (64 : Int) ≤ x; omega) (show x < ((2 ^ 8 : Nat) : Int) by show x < (256 : Int); omega), show ((2 ^ (6 + 1) : Nat) : Int) = 128 from rfl] at h; refine (congrArg (fun z => Q (some (vI z)) M) ?_).mp h; unfold w32; omega)
      | (rw [nlz_leaf 8 (show ((2 ^ 8 : Nat) : Int) ≤ x by show (256 : Int) ≤ x; omega) (show x < ((2 ^ 10 : Nat) : Int) by show x < (1024 : Int); omega), show ((2 ^ (8 + 1) : Nat) : Int) = 512 from rfl] at h; refine (congrArg (fun z => Q (some (vI z)) M) ?_).mp h; unfold w32; omega)
      | (rw [nlz_leaf 10 (show ((2 ^ 10 : Nat) : Int) ≤ x by show (1024 : Int) ≤ x; omega) (show x < ((2 ^ 12 : Nat) : Int) by show x < (4096 : Int); omega), show ((2 ^ (10 + 1) : Nat) : Int) = 2048 from rfl] at h; refine (congrArg (fun z => Q (some (vI z)) M) ?_).mp h; unfold w32; omega)
      | (rw [nlz_leaf 12 (show ((2 ^ 12 : Nat) : Int) ≤ x by show (4096 : Int) ≤ x; omega) (show x < ((2 ^ 14 : Nat) : Int) by show x < (16384 : Int); omega), show ((2 ^ (12 + 1) : Nat) : Int) = 8192 from rfl] at h; refine (congrArg (fun z => Q (some (vI z)) M) ?_).mp h; unfold w32; omega)
      | (rw [nlz_leaf 14 (show ((2 ^ 14 : Nat) : Int) ≤ x by show (16384 : Int) ≤ x; omega) (show x < ((2 ^ 16 : Nat) : Int) by show x < (65536 : Int); omega), show ((2 ^ (14 + 1) : Nat) : Int) = 32768 from rfl] at h; refine (congrArg (fun z => Q (some (vI z)) M) ?_).mp h; unfold w32; omega)
      | (rw [nlz_leaf 16 (show ((2 ^ 16 : Nat) : Int) ≤ x by show (65536 : Int) ≤ x; omega) (show x < ((2 ^ 18 : Nat) : Int) by show x < (262144 : Int); omega), show ((2 ^ (16 + 1) : Nat) : Int) = 131072 from rfl] at h; refine (congrArg (fun z => Q (some (vI z)) M) ?_).mp h; unfold w32; omega)
      | (rw [nlz_leaf 18 (show ((2 ^ 18 : Nat) : Int) ≤ x by show (262144 : Int) ≤ x; omega) (show x < ((2 ^ 20 : Nat) : Int) by show x < (1048576 : Int); omega), show ((2 ^ (18 + 1) : Nat) : Int) = 524288 from rfl] at h; refine (congrArg (fun z => Q (some (vI z)) M) ?_).mp h; unfold w32; omega)
      | (rw [nlz_leaf 20 (show ((2 ^ 20 : Nat) : Int) ≤ x by show (1048576 : Int) ≤ x; omega) (show x < ((2 ^ 22 : Nat) : Int) by show x < (4194304 : Int); omega), show ((2 ^ (20 + 1) : Nat) : Int) = 2097152 from rfl] at h; refine (congrArg (fun z => Q (some (vI z)) M) ?_).mp h; unfold w32; omega)
      | (rw [nlz_leaf 22 (show ((2 ^ 22 : Nat) : Int) ≤ x by show (4194304 : Int) ≤ x; omega) (show x < ((2 ^ 24 : Nat) : Int) by show x < (16777216 : Int); omega), show ((2 ^ (22 + 1) : Nat) : Int) = 8388608 from rfl] at h; refine (congrArg (fun z => Q (some (vI z)) M) ?_).mp h; unfold w32; omega)
      | (rw [nlz_leaf 24 (show ((2 ^ 24 : Nat) : Int) ≤ x by show (16777216 : Int) ≤ x; omega) (show x < ((2 ^ 26 : Nat) : Int) by show x < (67108864 : Int); omega), show ((2 ^ (24 + 1) : Nat) : Int) = 33554432 from rfl] at h; refine (congrArg (fun z => Q (some (vI z)) M) ?_).mp h; unfold w32; omega)
      | (rw [nlz_leaf 26 (show ((2 ^ 26 : Nat) : Int) ≤ x by show (67108864 : Int) ≤ x; omega) (show x < ((2 ^ 28 : Nat) : Int) by show x < (268435456 : Int); omega), show ((2 ^ (26 + 1) : Nat) : Int) = 134217728 from rfl] at h; refine (congrArg (fun z => Q (some (vI z)) M) ?_).mp h; unfold w32; omega)
      | (rw [nlz_leaf 28 (show ((2 ^ 28 : Nat) : Int) ≤ x by show (268435456 : Int) ≤ x; omega) (show x < ((2 ^ 30 : Nat) : Int) by show x < (1073741824 : Int); omega), show ((2 ^ (28 + 1) : Nat) : Int) = 536870912 from rfl] at h; refine (congrArg (fun z => Q (some (vI z)) M) ?_).mp h; unfold w32; omega)
      | (rw [nlz_leaf 30 (show ((2 ^ 30 : Nat) : Int) ≤ x by show (1073741824 : Int) ≤ x; omega) (show x < ((2 ^ 32 : Nat) : Int) by show x < (4294967296 : Int); omega), show ((2 ^ (30 + 1) : Nat) : Int) = 2147483648 from rfl] at h; refine (congrArg (fun z => Q (some (vI z)) M) ?_).mp h; unfold w32; omega)
  · by_cases c : x = 0
    · subst c
      have hb : bl 0 = 0 := rfl
      rw [if_neg (by omega), hb] at h
      refine (congrArg (fun z => Q (some (vI z)) M) ?_).mp h
      decide
    · rw [if_pos (by omega)] at h
      refine (congrArg (fun z => Q (some (vI z)) M) ?_).mp h
      rw [if_pos c]
theorem d_nlz64 {x : Int} (hd : 2 ≤ d) (hS : Shp M) (hx : 0 ≤ x ∧ x < 4611686018427387904) (h : Q (some (vI (64 - bl x))) M) : Call d mJ13_numberOfLeadingZeros_95d88 [vL x] M Q := by
  obtain ⟨e, rfl⟩ := dd (d := d) (by omega)
  have e1 : jushrL x 32 = x / 4294967296 := jushrL_eq ⟨by omega, by omega⟩ ⟨by decide, by decide⟩
  have hq : 0 ≤ x / 4294967296 ∧ x / 4294967296 < 1073741824 := by omega
  have e2 : w32 (x / 4294967296) = x / 4294967296 := w32_id ⟨by omega, by omega⟩
  refine vc_J13numberOfLeadingZeros ⟨fun c => ?_, fun c => ?_⟩
  · rw [e1, e2] at c ⊢
    refine d_nlz32 (by omega) ⟨by omega, by omega⟩ ⟨_, rfl, hS, ?_⟩
    rw [if_neg (by omega)]
    have h0 : 0 < x / 4294967296 := by omega
    have hx0 : 0 < x := by omega
    have hb : bl x = bl (x / 4294967296) + 32 := by
      have a1 := bl_pos h0
      obtain ⟨k, hk⟩ : ∃ k, bl (x / 4294967296) = k + 1 := ⟨bl (x / 4294967296) - 1, by omega⟩
      have b1 := (bl_le h0 k).mpr (by omega)
      have b2 := (bl_lt h0 (k + 1)).mpr (by omega)
      rw [hk]
      refine bl_eq (k := k + 32) ?_ ?_
      · rw [Nat.pow_add, Int.natCast_mul]
        have := (Int.le_ediv_iff_mul_le (a := ((2 ^ k : Nat) : Int)) (b := x) (c := 4294967296) (by omega)).mp b1
        exact this
      · rw [show k + 32 + 1 = (k + 1) + 32 by omega, Nat.pow_add, Int.natCast_mul]
        have := (Int.ediv_lt_iff_lt_mul (a := x) (b := ((2 ^ (k + 1) : Nat) : Int)) (c := 4294967296) (by omega)).mp b2
        exact this
    refine (congrArg (fun z => Q (some (vI z)) M) ?_).mp h
    omega
  · rw [e1, e2] at c
    have hc : x / 4294967296 = 0 := by omega
    have hlt : x < 4294967296 := by omega
    refine d_nlz32 (by omega) (w32_in _) ⟨_, rfl, hS, ?_⟩
    refine (congrArg (fun z => Q (some (vI z)) M) ?_).mp h
    by_cases c2 : x < 2147483648
    · rw [w32_id (z := x) ⟨by omega, by omega⟩, if_neg (by omega)]
      have : bl x ≤ 31 := by
        rcases Int.lt_or_le 0 x with h1 | h1
        · exact (bl_lt h1 31).mp (by omega)
        · unfold bl; rw [if_pos h1]; omega
      unfold w32
      omega
    · have : bl x = 31 + 1 := bl_eq (k := 31) (by show (2147483648 : Int) ≤ x; omega) (by show x < (4294967296 : Int); omega)
      rw [if_pos (by unfold w32; omega), this]
      decide
theorem d_lengthOf {x : Int} (hd : 3 ≤ d) (hS : Shp M) (hx : 0 ≤ x ∧ x < 4611686018427387904) (h : Q (some (vI (bl x))) M) : Call d mX11_lengthOf [vL x] M Q := by
  obtain ⟨e, rfl⟩ := dd (d := d) (by omega)
  refine vm_lengthOf (d_nlz64 (by omega) hS hx ⟨_, rfl, hS, ?_⟩)
  refine (congrArg (fun z => Q (some (vI z)) M) ?_).mp h
  have : bl x ≤ 62 := by
    rcases Int.lt_or_le 0 x with h1 | h1
    · exact (bl_lt h1 62).mp (by omega)
    · unfold bl; rw [if_pos h1]; omega
  unfold w32
  omega
theorem d_rounded {x : Int} (hd : 4 ≤ d) (hS : Shp M) (hx : 0 ≤ x ∧ x < 4611686018427387904) (h : Q (some (vL (rnd x))) M) : Call d mX11_rounded [vL x] M Q := by
  obtain ⟨e, rfl⟩ := dd (d := d) (by omega)
  have hb : bl x ≤ 62 := by
    rcases Int.lt_or_le 0 x with h1 | h1
    · exact (bl_lt h1 62).mp (by omega)
    · unfold bl; rw [if_pos h1]; omega
  have ew : w32 ((bl x : Int) - 24) = (bl x : Int) - 24 := w32_id ⟨by omega, by omega⟩
  refine vm_rounded (d_lengthOf (by omega) hS hx ⟨_, rfl, hS, ?_⟩)
  rw [ew]
  refine ⟨fun h0 => ?_, fun h0 => ?_⟩
  · have hx0 : 0 < x := by
      rcases Int.lt_or_le 0 x with h1 | h1
      · exact h1
      · exfalso; unfold bl at h0; rw [if_pos h1] at h0; omega
    obtain ⟨c, hc⟩ : ∃ c : Nat, (bl x : Int) - 24 = c := ⟨bl x - 24, by omega⟩
    have hcn : c = bl x - 24 := by omega
    rw [hc] at h0 ⊢
    have hc1 : 1 ≤ c := by omega
    have hc38 : c ≤ 38 := by omega
    have hp : (2 ^ c : Nat) ≤ 2 ^ 38 := Nat.pow_le_pow_right (by decide) hc38
    have hp0 := Nat.two_pow_pos c
    have hq0 : 0 ≤ x / (2 ^ c : Nat) := Int.ediv_nonneg hx.1 (by omega)
    have hq1 : x / (2 ^ c : Nat) < 16777216 := by
      have h2 := (bl_lt hx0 (24 + c)).mpr (by omega)
      rw [Nat.pow_add] at h2
      refine Int.ediv_lt_of_lt_mul (by omega) ?_
      rw [show (16777216 : Int) * ((2 ^ c : Nat) : Int) = ((2 ^ 24 * 2 ^ c : Nat) : Int) by rw [Int.natCast_mul]; rfl]
      exact h2
    have e8 : ∀ z : Int, 0 ≤ z → z ≤ 16777216 → jshlL z (c : Int) = z * ((2 ^ c : Nat) : Int) := by
      intro z hz0 hz1
      rw [jshlL_eq ⟨by omega, by omega⟩, Int.toNat_natCast]
      have h1 : z * ((2 ^ c : Nat) : Int) ≤ 16777216 * ((2 ^ c : Nat) : Int) := Int.mul_le_mul_of_nonneg_right hz1 (by omega)
      have h2 : 0 ≤ z * ((2 ^ c : Nat) : Int) := Int.mul_nonneg hz0 (by omega)
      exact w64_id ⟨by omega, by omega⟩
    have e2 : jshrL x (c : Int) = x / (2 ^ c : Nat) := by rw [jshrL_eq ⟨by omega, by omega⟩ ⟨by omega, by omega⟩, Int.toNat_natCast]
    have hmod := Int.emod_nonneg x (b := ((2 ^ c : Nat) : Int)) (by omega)
    have hmod2 := Int.emod_lt_of_pos x (b := ((2 ^ c : Nat) : Int)) (by omega)
    have hdm := Int.mul_ediv_add_emod x ((2 ^ c : Nat) : Int)
    have e3 : w64 (x - jshlL (jshrL x (c : Int)) (c : Int)) = x % (2 ^ c : Nat) := by
      rw [e2, e8 _ hq0 (by omega), Int.mul_comm]
      rw [show x - ((2 ^ c : Nat) : Int) * (x / ((2 ^ c : Nat) : Int)) = x % ((2 ^ c : Nat) : Int) by omega]
      exact w64_id ⟨by omega, by omega⟩
    have e5 : jshlL 1 (w32 ((c : Int) - 1)) = ((2 ^ (c - 1) : Nat) : Int) := by
      have hp2 : (2 ^ (c - 1) : Nat) ≤ 2 ^ 38 := Nat.pow_le_pow_right (by decide) (by omega)
      have hp3 := Nat.two_pow_pos (c - 1)
      rw [w32_id (z := (c : Int) - 1) ⟨by omega, by omega⟩, jshlL_eq ⟨by omega, by omega⟩, Int.one_mul, show ((c : Int) - 1).toNat = c - 1 by omega, w64_id ⟨by omega, by omega⟩]
    have e6 : jandL (x / (2 ^ c : Nat)) 1 = x / (2 ^ c : Nat) % 2 := jandL_mask _ 1 (by decide)
    have e7 : w64 (x / (2 ^ c : Nat) + 1) = x / (2 ^ c : Nat) + 1 := w64_id ⟨by omega, by omega⟩
    rw [e3, e5]
    simp only [e6, e7, e2, jcmp_pos]
    have hr : rnd x = (if x % (2 ^ c : Nat) > (2 ^ (c - 1) : Nat) ∨ (x % (2 ^ c : Nat) = (2 ^ (c - 1) : Nat) ∧ x / (2 ^ c : Nat) % 2 = 1) then x / (2 ^ c : Nat) + 1 else x / (2 ^ c : Nat)) * (2 ^ c : Nat) := by
      unfold rnd
      rw [if_neg (by omega), ← hcn, show bl x - 25 = c - 1 by omega]
    rw [hr] at h
    have j1 : ∀ a b : Int, (jcmp a b ≠ 0) ↔ a ≠ b := fun a b => by rw [Ne, jcmp_eq]
    simp only [j1]
    generalize x / (2 ^ c : Nat) = kept at *
    generalize x % (2 ^ c : Nat) = rest at *
    generalize ((2 ^ (c - 1) : Nat) : Int) = half at *
    have hsel : (if (if half < rest then (1 : Int) else if rest ≠ half then 0 else if kept % 2 ≠ 1 then 0 else 1) = 0 then kept else kept + 1) = (if rest > half ∨ (rest = half ∧ kept % 2 = 1) then kept + 1 else kept) := by
      by_cases a1 : half < rest <;> by_cases a2 : rest = half <;> by_cases a3 : kept % 2 = 1 <;> simp [a1, a2, a3] <;> omega
    rw [hsel, e8 _ (by split <;> omega) (by split <;> omega)]
    exact h
  · have : bl x ≤ 24 := by omega
    unfold rnd at h
    rw [if_pos this] at h
    exact h
/-- what a rounding keeps within -/
theorem rnd_nonneg {x : Int} (h : 0 ≤ x) : 0 ≤ rnd x := by
  unfold rnd
  split
  · exact h
  · have h1 : 0 ≤ x / ((2 ^ (bl x - 24) : Nat) : Int) := Int.ediv_nonneg h (by have := Nat.two_pow_pos (bl x - 24); omega)
    have := Nat.two_pow_pos (bl x - 24)
    refine Int.mul_nonneg (by split <;> omega) (by omega)
theorem rnd_pow {x : Int} {k : Nat} (h : 0 ≤ x) (hk : x ≤ ((2 ^ k : Nat) : Int)) : rnd x ≤ ((2 ^ k : Nat) : Int) := by
  unfold rnd
  split
  · exact hk
  · rename_i hb
    have hx0 : 0 < x := by
      rcases Int.lt_or_le 0 x with h1 | h1
      · exact h1
      · exfalso; unfold bl at hb; rw [if_pos h1] at hb; omega
    obtain ⟨c, hc⟩ : ∃ c, bl x = c + 24 := ⟨bl x - 24, by omega⟩
    have hkc : c + 23 ≤ k := by
      have h1 := (bl_le hx0 (c + 23)).mpr (by omega)
      have h2 : ((2 ^ (c + 23) : Nat) : Int) ≤ ((2 ^ k : Nat) : Int) := Int.le_trans h1 hk
      have h3 : 2 ^ (c + 23) ≤ 2 ^ k := by omega
      exact (Nat.pow_le_pow_iff_right (by decide)).mp h3
    rw [show bl x - 24 = c by omega, show bl x - 25 = c - 1 by omega]
    have hp0 := Nat.two_pow_pos c
    obtain ⟨g, rfl⟩ : ∃ g, k = g + c := ⟨k - c, by omega⟩
    rw [Nat.pow_add, Int.natCast_mul] at hk ⊢
    have hd : x / ((2 ^ c : Nat) : Int) ≤ ((2 ^ g : Nat) : Int) := by
      have := Int.ediv_le_ediv (c := ((2 ^ c : Nat) : Int)) (by omega) hk
      rwa [Int.mul_ediv_cancel _ (by omega)] at this
    refine Int.mul_le_mul_of_nonneg_right ?_ (by omega)
    split
    · rename_i hup
      rcases Int.lt_or_le (x / ((2 ^ c : Nat) : Int)) ((2 ^ g : Nat) : Int) with a | a
      · omega
      · exfalso
        have he : x / ((2 ^ c : Nat) : Int) = ((2 ^ g : Nat) : Int) := by omega
        have hdm := Int.mul_ediv_add_emod x ((2 ^ c : Nat) : Int)
        have hm := Int.emod_nonneg x (b := ((2 ^ c : Nat) : Int)) (by omega)
        rw [he, Int.mul_comm] at hdm
        have : x % ((2 ^ c : Nat) : Int) = 0 := by omega
        have hp1 := Nat.two_pow_pos (c - 1)
        omega
    · exact hd
end Helpers3
