/-! bits as whole numbers -/
theorem i32_lit {z : Int} (h : -2147483648 ≤ z ∧ z < 2147483648) : i32 z := h
theorem tn32 {a : Int} (h : 0 ≤ a) (h2 : a < 4294967296) : (Int32.ofInt a).toBitVec.toNat = a.toNat := by
  show (BitVec.ofInt 32 a).toNat = _
  rw [BitVec.toNat_ofInt]
  omega
theorem tn64 {a : Int} (h : 0 ≤ a) (h2 : a < 18446744073709551616) : (Int64.ofInt a).toBitVec.toNat = a.toNat := by
  show (BitVec.ofInt 64 a).toNat = _
  rw [BitVec.toNat_ofInt]
  omega
theorem ti32 {x : Int32} {n : Nat} (h : x.toBitVec.toNat = n) (hn : n < 2147483648) : x.toInt = n := by
  show x.toBitVec.toInt = n
  rw [BitVec.toInt_eq_toNat_of_lt (by omega), h]
theorem ti64 {x : Int64} {n : Nat} (h : x.toBitVec.toNat = n) (hn : n < 9223372036854775808) : x.toInt = n := by
  show x.toBitVec.toInt = n
  rw [BitVec.toInt_eq_toNat_of_lt (by omega), h]
theorem jand_nat {a b : Int} (ha : 0 ≤ a ∧ a < 2147483648) (hb : 0 ≤ b ∧ b < 2147483648) : jand a b = ((a.toNat &&& b.toNat : Nat) : Int) := by
  unfold jand
  refine ti32 ?_ ?_
  · rw [Int32.toBitVec_and, BitVec.toNat_and, tn32 ha.1 (by omega), tn32 hb.1 (by omega)]
  · exact Nat.lt_of_le_of_lt Nat.and_le_left (by omega)
theorem jor_nat {a b : Int} (ha : 0 ≤ a ∧ a < 2147483648) (hb : 0 ≤ b ∧ b < 2147483648) : jor a b = ((a.toNat ||| b.toNat : Nat) : Int) := by
  unfold jor
  have h : a.toNat ||| b.toNat < 2 ^ 31 := Nat.or_lt_two_pow (by omega) (by omega)
  refine ti32 ?_ (by omega)
  rw [Int32.toBitVec_or, BitVec.toNat_or, tn32 ha.1 (by omega), tn32 hb.1 (by omega)]
theorem jxor_nat {a b : Int} (ha : 0 ≤ a ∧ a < 2147483648) (hb : 0 ≤ b ∧ b < 2147483648) : jxor a b = ((a.toNat ^^^ b.toNat : Nat) : Int) := by
  unfold jxor
  have h : a.toNat ^^^ b.toNat < 2 ^ 31 := Nat.xor_lt_two_pow (by omega) (by omega)
  refine ti32 ?_ (by omega)
  rw [Int32.toBitVec_xor, BitVec.toNat_xor, tn32 ha.1 (by omega), tn32 hb.1 (by omega)]
/-- any number by a mask of low bits -/
theorem jand_mask (a : Int) (k : Nat) (hk : k < 31) : jand a (2 ^ k - 1 : Nat) = a % (2 ^ k : Nat) := by
  unfold jand
  have hp : 2 ^ k ≤ 2 ^ 30 := Nat.pow_le_pow_right (by decide) (by omega)
  have hp0 : 0 < 2 ^ k := Nat.two_pow_pos k
  have h1 : (Int32.ofInt ((2 ^ k - 1 : Nat) : Int)).toBitVec.toNat = 2 ^ k - 1 := by rw [tn32 (by omega) (by omega)]; omega
  have h3 : (Int32.ofInt a).toBitVec.toNat % 2 ^ k = (a % (2 ^ k : Nat)).toNat := by
    show (BitVec.ofInt 32 a).toNat % 2 ^ k = _
    rw [BitVec.toNat_ofInt]
    have hd : ((2 ^ k : Nat) : Int) ∣ ((2 ^ 32 : Nat) : Int) := Int.natCast_dvd_natCast.mpr (Nat.pow_dvd_pow 2 (by omega))
    have e1 : (0 : Int) ≤ a % (2 ^ 32 : Nat) := Int.emod_nonneg _ (by omega)
    have e2 : (0 : Int) ≤ a % (2 ^ k : Nat) := Int.emod_nonneg _ (by omega)
    apply Int.ofNat.inj
    show (((a % (2 ^ 32 : Nat)).toNat % 2 ^ k : Nat) : Int) = ((a % (2 ^ k : Nat)).toNat : Int)
    rw [Int.natCast_emod, Int.toNat_of_nonneg e1, Int.toNat_of_nonneg e2, Int.emod_emod_of_dvd _ hd]
  have h2 : (Int32.ofInt a &&& Int32.ofInt ((2 ^ k - 1 : Nat) : Int)).toBitVec.toNat = (a % (2 ^ k : Nat)).toNat := by
    rw [Int32.toBitVec_and, BitVec.toNat_and, h1, Nat.and_two_pow_sub_one_eq_mod, h3]
  have e2 : (0 : Int) ≤ a % (2 ^ k : Nat) := Int.emod_nonneg _ (by omega)
  have e3 : a % (2 ^ k : Nat) < (2 ^ k : Nat) := Int.emod_lt_of_pos _ (by omega)
  rw [ti32 h2 (by omega), Int.toNat_of_nonneg e2]
theorem sh32 {s : Int} (hs : 0 ≤ s ∧ s < 32) : ((Int32.ofInt s &&& 31).toBitVec.smod 32).toNat = s.toNat := by
  have h1 : Int32.ofInt s &&& 31 = Int32.ofInt s := by
    apply Int32.toBitVec_inj.mp
    apply BitVec.eq_of_toNat_eq
    rw [Int32.toBitVec_and, BitVec.toNat_and, tn32 hs.1 (by omega)]
    show s.toNat &&& (2 ^ 5 - 1) = s.toNat
    rw [Nat.and_two_pow_sub_one_eq_mod]
    omega
  rw [h1]
  obtain ⟨n, rfl⟩ := Int.eq_ofNat_of_zero_le hs.1
  have hn : n < 32 := by omega
  exact (by decide +kernel : ∀ n : Nat, n < 32 → ((Int32.ofInt (n : Int)).toBitVec.smod 32).toNat = (n : Int).toNat) n hn
theorem jshl_eq {a s : Int} (hs : 0 ≤ s ∧ s < 32) : jshl a s = w32 (a * (2 ^ s.toNat : Nat)) := by
  unfold jshl
  have h := pk_shl (Int32.ofInt a) (Int32.ofInt s &&& 31) s.toNat (sh32 hs)
  apply (n_eq (t32_in _) (w32_in _)).mp
  rw [Int32.ofInt_toInt, n_w32]
  apply Int32.toBitVec_inj.mp
  apply BitVec.eq_of_toNat_eq
  rw [h]
  show (BitVec.ofInt 32 a).toNat * 2 ^ s.toNat % 2 ^ 32 = (BitVec.ofInt 32 (a * (2 ^ s.toNat : Nat))).toNat
  rw [BitVec.toNat_ofInt, BitVec.toNat_ofInt]
  apply Int.ofNat.inj
  show (((a % (2 ^ 32 : Nat)).toNat * 2 ^ s.toNat % 2 ^ 32 : Nat) : Int) = ((a * (2 ^ s.toNat : Nat) % (2 ^ 32 : Nat)).toNat : Int)
  have e1 : (0 : Int) ≤ a % (2 ^ 32 : Nat) := Int.emod_nonneg _ (by omega)
  have e2 : (0 : Int) ≤ a * (2 ^ s.toNat : Nat) % (2 ^ 32 : Nat) := Int.emod_nonneg _ (by omega)
  rw [Int.natCast_emod, Int.natCast_mul, Int.toNat_of_nonneg e1, Int.toNat_of_nonneg e2]
  rw [Int.mul_emod (a % (2 ^ 32 : Nat)), Int.emod_emod, ← Int.mul_emod]
theorem jshr_eq {a s : Int} (ha : i32 a) (hs : 0 ≤ s ∧ s < 32) : jshr a s = a / (2 ^ s.toNat : Nat) := by
  unfold jshr
  rw [pk_shr (Int32.ofInt a) (Int32.ofInt s &&& 31) s.toNat (sh32 hs), n_to ha, Int.shiftRight_eq_div_pow]
theorem jushr_eq {a s : Int} (ha : 0 ≤ a ∧ a < 2147483648) (hs : 0 ≤ s ∧ s < 32) : jushr a s = a / (2 ^ s.toNat : Nat) := by
  unfold jushr
  have hk : (((Int32.ofInt s).toUInt32 &&& Int32.toUInt32 31).toBitVec % 32).toNat = s.toNat := by
    obtain ⟨n, rfl⟩ := Int.eq_ofNat_of_zero_le hs.1
    have hn : n < 32 := by omega
    exact (by decide +kernel : ∀ n : Nat, n < 32 → (((Int32.ofInt (n : Int)).toUInt32 &&& Int32.toUInt32 31).toBitVec % 32).toNat = (n : Int).toNat) n hn
  have h := pk_ushr (Int32.ofInt a) (Int32.ofInt s) s.toNat hk
  rw [tn32 ha.1 (by omega)] at h
  have hle : a.toNat / 2 ^ s.toNat ≤ a.toNat := Nat.div_le_self _ _
  rw [ti32 h (by omega)]
  rw [Int.natCast_ediv, Int.toNat_of_nonneg ha.1]
theorem jdiv_eq {a b : Int} (ha : 0 ≤ a ∧ a < 2147483648) (hb : 0 < b ∧ b < 2147483648) : jdiv a b = a / b := by
  unfold jdiv
  rw [Int32.toInt_div, n_to ⟨by omega, ha.2⟩, n_to ⟨by omega, hb.2⟩, Int.tdiv_eq_ediv_of_nonneg ha.1]
  have h1 : 0 ≤ a / b := Int.ediv_nonneg ha.1 (by omega)
  have h2 : a / b ≤ a := Int.ediv_le_self _ ha.1
  rw [Int.bmod_eq_of_le (by omega) (by omega)]
theorem jrem_eq {a b : Int} (ha : 0 ≤ a ∧ a < 2147483648) (hb : 0 < b ∧ b < 2147483648) : jrem a b = a % b := by
  unfold jrem
  have hd := jdiv_eq ha hb
  have hdiv : Int32.ofInt a / Int32.ofInt b = Int32.ofInt (a / b) := by
    rw [← hd]; unfold jdiv; rw [Int32.ofInt_toInt]
  rw [hdiv, n_mul, n_sub]
  have h1 : 0 ≤ a / b := Int.ediv_nonneg ha.1 (by omega)
  have h3 : 0 ≤ a % b := Int.emod_nonneg _ (by omega)
  have h4 : a % b < b := Int.emod_lt_of_pos _ hb.1
  have h5 : a / b * b = a - a % b := by have := Int.mul_ediv_add_emod a b; rw [Int.mul_comm] at this; omega
  rw [h5, w32_id (z := a - a % b) ⟨by omega, by omega⟩, show a - (a - a % b) = a % b by omega, w32_id ⟨by omega, by omega⟩]
  exact n_to ⟨by omega, by omega⟩
theorem jdivL_eq {a b : Int} (ha : 0 ≤ a ∧ a < 9223372036854775808) (hb : 0 < b ∧ b < 9223372036854775808) : jdivL a b = a / b := by
  unfold jdivL
  rw [Int64.toInt_div, n_toL ⟨by omega, ha.2⟩, n_toL ⟨by omega, hb.2⟩, Int.tdiv_eq_ediv_of_nonneg ha.1]
  have h1 : 0 ≤ a / b := Int.ediv_nonneg ha.1 (by omega)
  have h2 : a / b ≤ a := Int.ediv_le_self _ ha.1
  rw [Int.bmod_eq_of_le (by omega) (by omega)]
theorem jremL_eq {a b : Int} (ha : 0 ≤ a ∧ a < 9223372036854775808) (hb : 0 < b ∧ b < 9223372036854775808) : jremL a b = a % b := by
  unfold jremL
  have hd := jdivL_eq ha hb
  have hdiv : Int64.ofInt a / Int64.ofInt b = Int64.ofInt (a / b) := by
    rw [← hd]; unfold jdivL; rw [Int64.ofInt_toInt]
  rw [hdiv, n_mulL, n_subL]
  have h1 : 0 ≤ a / b := Int.ediv_nonneg ha.1 (by omega)
  have h3 : 0 ≤ a % b := Int.emod_nonneg _ (by omega)
  have h4 : a % b < b := Int.emod_lt_of_pos _ hb.1
  have h5 : a / b * b = a - a % b := by have := Int.mul_ediv_add_emod a b; rw [Int.mul_comm] at this; omega
  rw [h5, w64_id (z := a - a % b) ⟨by omega, by omega⟩, show a - (a - a % b) = a % b by omega, w64_id ⟨by omega, by omega⟩]
  exact n_toL ⟨by omega, by omega⟩
theorem sh64 {s : Int} (hs : 0 ≤ s ∧ s < 64) : (((Int32.ofInt s).toInt64 &&& 63).toBitVec.smod 64).toNat = s.toNat := by
  obtain ⟨n, rfl⟩ := Int.eq_ofNat_of_zero_le hs.1
  have hn : n < 64 := by omega
  exact (by decide +kernel : ∀ n : Nat, n < 64 → (((Int32.ofInt (n : Int)).toInt64 &&& 63).toBitVec.smod 64).toNat = (n : Int).toNat) n hn
theorem jshrL_eq {a s : Int} (ha : i64 a) (hs : 0 ≤ s ∧ s < 64) : jshrL a s = a / (2 ^ s.toNat : Nat) := by
  unfold jshrL
  rw [show (Int64.ofInt a >>> ((Int32.ofInt s).toInt64 &&& 63)).toInt = (Int64.ofInt a).toInt >>> s.toNat by
    show (BitVec.toInt (BitVec.sshiftRight (Int64.ofInt a).toBitVec (((Int32.ofInt s).toInt64 &&& 63).toBitVec.smod 64).toNat)) = _
    rw [sh64 hs, BitVec.toInt_sshiftRight]; rfl, n_toL ha, Int.shiftRight_eq_div_pow]
theorem jshlL_eq {a s : Int} (hs : 0 ≤ s ∧ s < 64) : jshlL a s = w64 (a * (2 ^ s.toNat : Nat)) := by
  unfold jshlL
  apply (n_eqL (t64_in _) (w64_in _)).mp
  rw [Int64.ofInt_toInt, n_w64]
  apply Int64.toBitVec_inj.mp
  apply BitVec.eq_of_toNat_eq
  show ((Int64.ofInt a).toBitVec <<< (((Int32.ofInt s).toInt64 &&& 63).toBitVec.smod 64)).toNat = (BitVec.ofInt 64 (a * (2 ^ s.toNat : Nat))).toNat
  rw [BitVec.shiftLeft_eq', sh64 hs, BitVec.toNat_shiftLeft, BitVec.toNat_ofInt]
  show ((BitVec.ofInt 64 a).toNat <<< s.toNat) % 2 ^ 64 = _
  rw [Nat.shiftLeft_eq, BitVec.toNat_ofInt]
  apply Int.ofNat.inj
  show (((a % (2 ^ 64 : Nat)).toNat * 2 ^ s.toNat % 2 ^ 64 : Nat) : Int) = ((a * (2 ^ s.toNat : Nat) % (2 ^ 64 : Nat)).toNat : Int)
  have e1 : (0 : Int) ≤ a % (2 ^ 64 : Nat) := Int.emod_nonneg _ (by omega)
  have e2 : (0 : Int) ≤ a * (2 ^ s.toNat : Nat) % (2 ^ 64 : Nat) := Int.emod_nonneg _ (by omega)
  rw [Int.natCast_emod, Int.natCast_mul, Int.toNat_of_nonneg e1, Int.toNat_of_nonneg e2]
  rw [Int.mul_emod (a % (2 ^ 64 : Nat)), Int.emod_emod, ← Int.mul_emod]
theorem jandL_mask (a : Int) (k : Nat) (hk : k < 63) : jandL a (2 ^ k - 1 : Nat) = a % (2 ^ k : Nat) := by
  unfold jandL
  have hp : 2 ^ k ≤ 2 ^ 62 := Nat.pow_le_pow_right (by decide) (by omega)
  have hp0 : 0 < 2 ^ k := Nat.two_pow_pos k
  have h1 : (Int64.ofInt ((2 ^ k - 1 : Nat) : Int)).toBitVec.toNat = 2 ^ k - 1 := by rw [tn64 (by omega) (by omega)]; omega
  have h3 : (Int64.ofInt a).toBitVec.toNat % 2 ^ k = (a % (2 ^ k : Nat)).toNat := by
    show (BitVec.ofInt 64 a).toNat % 2 ^ k = _
    rw [BitVec.toNat_ofInt]
    have hd : ((2 ^ k : Nat) : Int) ∣ ((2 ^ 64 : Nat) : Int) := Int.natCast_dvd_natCast.mpr (Nat.pow_dvd_pow 2 (by omega))
    have e1 : (0 : Int) ≤ a % (2 ^ 64 : Nat) := Int.emod_nonneg _ (by omega)
    have e2 : (0 : Int) ≤ a % (2 ^ k : Nat) := Int.emod_nonneg _ (by omega)
    apply Int.ofNat.inj
    show (((a % (2 ^ 64 : Nat)).toNat % 2 ^ k : Nat) : Int) = ((a % (2 ^ k : Nat)).toNat : Int)
    rw [Int.natCast_emod, Int.toNat_of_nonneg e1, Int.toNat_of_nonneg e2, Int.emod_emod_of_dvd _ hd]
  have h2 : (Int64.ofInt a &&& Int64.ofInt ((2 ^ k - 1 : Nat) : Int)).toBitVec.toNat = (a % (2 ^ k : Nat)).toNat := by
    rw [Int64.toBitVec_and, BitVec.toNat_and, h1, Nat.and_two_pow_sub_one_eq_mod, h3]
  have e2 : (0 : Int) ≤ a % (2 ^ k : Nat) := Int.emod_nonneg _ (by omega)
  have e3 : a % (2 ^ k : Nat) < (2 ^ k : Nat) := Int.emod_lt_of_pos _ (by omega)
  rw [ti64 h2 (by omega), Int.toNat_of_nonneg e2]
theorem jushrL_eq {a s : Int} (ha : 0 ≤ a ∧ a < 9223372036854775808) (hs : 0 ≤ s ∧ s < 64) : jushrL a s = a / (2 ^ s.toNat : Nat) := by
  unfold jushrL
  have hk : (((Int32.ofInt s).toInt64.toUInt64 &&& Int64.toUInt64 63).toBitVec % 64).toNat = s.toNat := by
    obtain ⟨n, rfl⟩ := Int.eq_ofNat_of_zero_le hs.1
    have hn : n < 64 := by omega
    exact (by decide +kernel : ∀ n : Nat, n < 64 → (((Int32.ofInt (n : Int)).toInt64.toUInt64 &&& Int64.toUInt64 63).toBitVec % 64).toNat = (n : Int).toNat) n hn
  have h : ((Int64.ofInt a).toUInt64 >>> ((Int32.ofInt s).toInt64.toUInt64 &&& Int64.toUInt64 63)).toInt64.toBitVec.toNat = a.toNat / 2 ^ s.toNat := by
    show ((Int64.ofInt a).toBitVec >>> (((Int32.ofInt s).toInt64.toUInt64 &&& Int64.toUInt64 63).toBitVec % 64)).toNat = _
    rw [BitVec.ushiftRight_eq', hk, BitVec.toNat_ushiftRight, tn64 ha.1 (by omega), Nat.shiftRight_eq_div_pow]
  have hle : a.toNat / 2 ^ s.toNat ≤ a.toNat := Nat.div_le_self _ _
  rw [ti64 h (by omega), Int.natCast_ediv, Int.toNat_of_nonneg ha.1]
