/-! LAWS: the class's pile works out what evC says -/
theorem w32_i {z : Int} (h1 : -2147483648 ≤ z) (h2 : z < 2147483648) : w32 z = z := w32_id ⟨h1, h2⟩
theorem w64_i {z : Int} (h1 : -9223372036854775808 ≤ z) (h2 : z < 9223372036854775808) : w64 z = z := w64_id ⟨h1, h2⟩
theorem atv_k {M : jM} {n r : Nat} {i : Int} (h1 : 0 ≤ i) (h2 : i < n) : atv M n r i = iv M r i.toNat := atv_i ⟨h1, h2⟩
theorem ptv_k {M : jM} {n r : Nat} {i v : Int} (h1 : 0 ≤ i) (h2 : i < n) : ptv M n r i v = si M r i.toNat v := ptv_in ⟨h1, h2⟩
section LawM
variable {d : Nat} {M : jM} {Q : Option jV → jM → Prop} {g : Nat}
theorem mul_in {x y : Int} (hx : -1000000 ≤ x ∧ x ≤ 1000000) (hy : -1000000 ≤ y ∧ y ≤ 1000000) : -1000000000000 ≤ x * y ∧ x * y ≤ 1000000000000 := by
  have h1 : (x * y).natAbs ≤ 1000000 * 1000000 := by
    rw [Int.natAbs_mul]
    exact Nat.mul_le_mul (by omega) (by omega)
  omega
set_option maxHeartbeats 100000 in
theorem s_joined {sg x y : Int} (hd : 1 ≤ d) (hS : Shp M) (hx : -1000000 ≤ x ∧ x ≤ 1000000) (hy : -1000000 ≤ y ∧ y ≤ 1000000) (h : Q (some (vL (opJ sg x y))) M) : Call d mX3_joined [vI sg, vL x, vL y] M Q := by
  obtain ⟨e, rfl⟩ := dd hd
  have hm := mul_in hx hy
  unfold opJ at h
  refine vl_joined hS ⟨?_, ?_, ?_, ?_, ?_, ?_, ?_, ?_, ?_, ?_, ?_, ?_, ?_, ?_, ?_, ?_, ?_, ?_, ?_, ?_, ?_, ?_, ?_, ?_, ?_, ?_⟩
  · intro c; subst c; simpa using h
  · intro c; subst c; simpa using h
  · intro c; subst c; simpa using h
  · intro c; subst c; simpa using h
  · intro c; subst c; rw [w64_i (by omega) (by omega)]; simpa using h
  · intro c; subst c; rw [w64_i (by omega) (by omega)]; simpa using h
  · intro c; subst c; simpa using h
  · intro c; subst c; rw [w64_i (by omega) (by omega)]; simpa using h
  · intro c; subst c; simpa using h
  · intro c; subst c
    have h' : Q (some (vL (if y = 0 then 0 else jdivL x y))) M := by simpa using h
    refine ⟨fun q => ?_, fun q => ?_⟩
    · have : y ≠ 0 := fun z => q (jcmp_eq.mpr z)
      rw [if_neg this] at h'; exact ⟨this, h'⟩
    · have : y = 0 := jcmp_eq.mp (by simpa using q)
      rw [if_pos this] at h'; exact h'
  · intro c; subst c; simpa using h
  · intro c; subst c; simpa using h
  · intro c; subst c; simpa using h
  · intro c; subst c; simpa using h
  · intro c; subst c; simpa using h
  · intro c; subst c; simpa using h
  · intro c; subst c; simpa using h
  · intro c; subst c; simpa using h
  · intro c; subst c; simpa using h
  · intro c; subst c; simpa using h
  · intro c; subst c; simpa using h
  · intro c; subst c; simpa using h
  · intro c; subst c
    have h' : Q (some (vL (if x < y then 1 else 0))) M := by simpa using h
    refine (congrArg (fun z => Q (some (vL z)) M) ?_).mp h'
    simp only [jcmp_ge]; split <;> split <;> first | rfl | omega
  · intro c; subst c
    have h' : Q (some (vL (if x = y then 1 else 0))) M := by simpa using h
    refine (congrArg (fun z => Q (some (vL z)) M) ?_).mp h'
    by_cases hxy : x = y <;> simp [hxy, jcmp_eq]
  · intro c; subst c
    have h' : Q (some (vL (if y < x then 1 else 0))) M := by simpa using h
    refine (congrArg (fun z => Q (some (vL z)) M) ?_).mp h'
    simp only [jcmp_le]; split <;> split <;> first | rfl | omega
  · intro c
    simp only [show ¬ sg = 43 by omega, show ¬ sg = 45 by omega, show ¬ sg = 42 by omega, show ¬ sg = 47 by omega, show ¬ sg = 61 by omega, show ¬ sg = 60 by omega, show ¬ sg = 62 by omega, show ¬ sg = 38 by omega, if_false] at h
    exact h
set_option maxHeartbeats 100000 in
theorem tyC_bin {sg v : Int} {ty t' : List Bool} (h1 : sg ≠ 110) (h2 : sg ≠ 108) (h3 : sg ≠ 33) (h : tyC sg v ty = some t') : ∃ a b r c, ty = a :: b :: r ∧ t' = c :: r := by
  unfold tyC at h
  rw [if_neg h1, if_neg h2, if_neg h3] at h
  repeat' split at h
  all_goals (first | (cases h; exact ⟨_, _, _, _, rfl, rfl⟩) | (exact absurd h (by simp)))
end LawM
