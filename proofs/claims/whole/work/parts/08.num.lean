/-! whole numbers and the machine's numbers -/
def i32 (z : Int) : Prop := -2147483648 ≤ z ∧ z < 2147483648
def i64 (z : Int) : Prop := -9223372036854775808 ≤ z ∧ z < 9223372036854775808
theorem w32_in (z : Int) : i32 (w32 z) := by unfold i32 w32; omega
theorem w64_in (z : Int) : i64 (w64 z) := by unfold i64 w64; omega
theorem w32_id {z : Int} (h : i32 z) : w32 z = z := by unfold i32 at h; unfold w32; omega
theorem w64_id {z : Int} (h : i64 z) : w64 z = z := by unfold i64 at h; unfold w64; omega
theorem i32_64 {z : Int} (h : i32 z) : i64 z := by unfold i32 at h; unfold i64; omega
theorem t32_in (x : Int32) : i32 x.toInt := ⟨x.le_toInt, x.toInt_lt⟩
theorem t64_in (x : Int64) : i64 x.toInt := ⟨x.le_toInt, x.toInt_lt⟩
theorem n_to {z : Int} (h : i32 z) : (Int32.ofInt z).toInt = z := Int32.toInt_ofInt_of_le h.1 h.2
theorem n_toL {z : Int} (h : i64 z) : (Int64.ofInt z).toInt = z := Int64.toInt_ofInt_of_le h.1 h.2
theorem n_w32 (z : Int) : Int32.ofInt (w32 z) = Int32.ofInt z := by
  apply Int32.toInt_inj.mp
  rw [n_to (w32_in z), Int32.toInt_ofInt]
  unfold w32
  rw [Int.bmod_def]
  simp only [Int32.size]
  split <;> omega
theorem n_w64 (z : Int) : Int64.ofInt (w64 z) = Int64.ofInt z := by
  apply Int64.toInt_inj.mp
  rw [n_toL (w64_in z), Int64.toInt_ofInt]
  unfold w64
  rw [Int.bmod_def]
  simp only [Int64.size]
  split <;> omega
theorem n_add (a b : Int) : Int32.ofInt a + Int32.ofInt b = Int32.ofInt (w32 (a + b)) := by rw [n_w32, Int32.ofInt_add]
theorem n_sub (a b : Int) : Int32.ofInt a - Int32.ofInt b = Int32.ofInt (w32 (a - b)) := by rw [n_w32, Int32.ofInt_sub]
theorem n_mul (a b : Int) : Int32.ofInt a * Int32.ofInt b = Int32.ofInt (w32 (a * b)) := by rw [n_w32, Int32.ofInt_mul]
theorem n_addL (a b : Int) : Int64.ofInt a + Int64.ofInt b = Int64.ofInt (w64 (a + b)) := by rw [n_w64, Int64.ofInt_add]
theorem n_subL (a b : Int) : Int64.ofInt a - Int64.ofInt b = Int64.ofInt (w64 (a - b)) := by rw [n_w64, Int64.ofInt_sub]
theorem n_mulL (a b : Int) : Int64.ofInt a * Int64.ofInt b = Int64.ofInt (w64 (a * b)) := by rw [n_w64, Int64.ofInt_mul]
theorem n_negL (a : Int) : -Int64.ofInt a = Int64.ofInt (w64 (-a)) := by rw [n_w64, Int64.ofInt_neg]
theorem n_eq {a b : Int} (ha : i32 a) (hb : i32 b) : Int32.ofInt a = Int32.ofInt b ↔ a = b := by rw [← Int32.toInt_inj, n_to ha, n_to hb]
theorem n_lt {a b : Int} (ha : i32 a) (hb : i32 b) : Int32.ofInt a < Int32.ofInt b ↔ a < b := by rw [Int32.lt_iff_toInt_lt, n_to ha, n_to hb]
theorem n_le {a b : Int} (ha : i32 a) (hb : i32 b) : Int32.ofInt a ≤ Int32.ofInt b ↔ a ≤ b := by rw [Int32.le_iff_toInt_le, n_to ha, n_to hb]
theorem n_eqL {a b : Int} (ha : i64 a) (hb : i64 b) : Int64.ofInt a = Int64.ofInt b ↔ a = b := by rw [← Int64.toInt_inj, n_toL ha, n_toL hb]
theorem n_ltL {a b : Int} (ha : i64 a) (hb : i64 b) : Int64.ofInt a < Int64.ofInt b ↔ a < b := by rw [Int64.lt_iff_toInt_lt, n_toL ha, n_toL hb]
theorem n_0 : (0 : Int32) = Int32.ofInt 0 := rfl
theorem z_in : i32 0 := by unfold i32; omega
theorem n_i2l {a : Int} (ha : i32 a) : (Int32.ofInt a).toInt64 = Int64.ofInt a := by
  apply Int64.toInt_inj.mp
  rw [Int32.toInt_toInt64, n_to ha, n_toL (i32_64 ha)]
theorem n_l2i (a : Int) : (Int64.ofInt a).toInt32 = Int32.ofInt (w32 a) := by rw [n_w32, Int64.toInt32_ofInt]
theorem n_cl {a : Int} (ha : i32 a) (h0 : 0 ≤ a) : (Int32.ofInt a).toNatClampNeg = a.toNat := by
  show (Int32.ofInt a).toInt.toNat = _
  rw [n_to ha]
theorem n_nat (n : Nat) : Int32.ofInt (n : Int) = Int32.ofNat n := rfl
theorem n_cmp {a b : Int} (ha : i64 a) (hb : i64 b) : lg_cmp (Int64.ofInt a) (Int64.ofInt b) = Int32.ofInt (jcmp a b) := by
  unfold lg_cmp jcmp
  simp only [gt_iff_lt, n_ltL ha hb, n_eqL ha hb, n_ltL hb ha]
  by_cases h1 : a < b
  · rw [if_neg (show ¬ b < a by omega), if_neg (show ¬ a = b by omega), if_pos h1]; rfl
  · by_cases h2 : a = b
    · rw [if_neg (show ¬ b < a by omega), if_pos h2, if_neg h1, if_pos h2]; rfl
    · rw [if_pos (show b < a by omega), if_neg h1, if_neg h2]; rfl
theorem jcmp_in (a b : Int) : i32 (jcmp a b) := by unfold jcmp i32; split <;> (try split) <;> omega
def gV : jV → Prop
  | .inl z => i32 z
  | .inr (.inl z) => i64 z
  | .inr (.inr _) => True
def gL (ls : jLs) : Prop := ∀ (i : Nat) (v : jV), ls[i]? = some (some v) → gV v
def gS (st : List jV) : Prop := ∀ v ∈ st, gV v
def gM (M : jM) : Prop := ∀ r i, i32 (iv M r i) ∧ i64 (lg M r i)
