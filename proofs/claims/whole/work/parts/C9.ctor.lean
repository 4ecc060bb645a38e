/-! THE CONSTRUCTORS -/
def lpW (w : Nat) : Nat → Nat
  | 0 => w
  | k + 1 => lpW w k + 10 + 32 + 32 + 32 + 32 + 32 + 8 + 60
def lpD (D : Nat → Nat → Bool) (r s : Nat) : Nat → Nat → Nat → Bool
  | 0 => D
  | k + 1 => adD (stDD (lpD D r s k) (s + 8 * k)) r k
theorem lpD_0 {D : Nat → Nat → Bool} {r s x y : Nat} (h : D x y = true) : ∀ k, lpD D r s k x y = true
  | 0 => h
  | k + 1 => adD_t.mpr (Or.inl (adD_t.mpr (Or.inl (adD_t.mpr (Or.inl (adD_t.mpr (Or.inl (adD_t.mpr (Or.inl (adD_t.mpr (Or.inl (adD_t.mpr (Or.inl (adD_t.mpr (Or.inl (lpD_0 h k))))))))))))))))
theorem js7 : jslots 7 = 10 := by rfl
theorem BdM.as {n n2 w : Nat} {V : List (Nat × Nat × Int)} {D : Nat → Nat → Bool} {M0 M : jM} (h : BdM n w V D M0 M) (e : n = n2) : BdM n2 w V D M0 M := by
  rw [← e]
  exact h
theorem ctor7 {d w a : Nat} {V : List (Nat × Nat × Int)} {D : Nat → Nat → Bool} {M0 M : jM} {Q : Option jV → jM → Prop} (hd : 1 ≤ d) (hB : BdM (a + 1) w V D M0 M) (ha : isSt a = true) (K : ∀ M2, BdM (a + 8) (((((((w + 32) + 32) + 32) + 32) + 32) + 8) + 60) V (adD (adD (adD (adD (adD (adD (adD D a 0) a 1) a 2) a 3) a 4) a 5) a 6) M0 M2 → Q none M2) : Call d mX7_init [vR a] M Q := by
  obtain ⟨e, rfl⟩ := dd (d := d) (by omega)
  have h6 := st_b ha
  have h5 : a < 500 := by omega
  have h0 : (a : Nat) ≠ 0 := by omega
  show Run (e + 1) mX7_init 0 [some (vR a)] [] M Q
  refine r_aload_n dX7_init_0 rfl ?_
  refine r_obj dX7_init_1 kO7_3 h0 (by decide) ?_
  refine r_aload_n dX7_init_4 rfl ?_
  refine r_bipush dX7_init_5 (by decide) ?_
  refine g_arr (n := (a + 1)) (len := 32) (t := 20) (j := 0) (pc1 := 9) hB (fun k => r_newarray_int dX7_init_7 (by decide) k) dX7_init_9 kF7_9 rfl (by rfl) (st_K a h5 ha).2.1 (st_R ha (by decide)) (by omega) (st_K a h5 ha).1 (fun M1 b1 => ?_)
  refine r_aload_n dX7_init_12 rfl ?_
  refine r_bipush dX7_init_13 (by decide) ?_
  refine g_arr (n := (a + 2)) (len := 32) (t := 20) (j := 1) (pc1 := 17) b1 (fun k => r_newarray_int dX7_init_15 (by decide) k) dX7_init_17 kF7_15 rfl (by rfl) (st_K a h5 ha).2.2.1 (st_R ha (by decide)) (by omega) (st_K a h5 ha).1 (fun M2 b2 => ?_)
  refine r_aload_n dX7_init_20 rfl ?_
  refine r_bipush dX7_init_21 (by decide) ?_
  refine g_arr (n := (a + 3)) (len := 32) (t := 20) (j := 2) (pc1 := 25) b2 (fun k => r_newarray_int dX7_init_23 (by decide) k) dX7_init_25 kF7_18 rfl (by rfl) (st_K a h5 ha).2.2.2.1 (st_R ha (by decide)) (by omega) (st_K a h5 ha).1 (fun M3 b3 => ?_)
  refine r_aload_n dX7_init_28 rfl ?_
  refine r_bipush dX7_init_29 (by decide) ?_
  refine g_arr (n := (a + 4)) (len := 32) (t := 20) (j := 3) (pc1 := 33) b3 (fun k => r_newarray_int dX7_init_31 (by decide) k) dX7_init_33 kF7_21 rfl (by rfl) (st_K a h5 ha).2.2.2.2.1 (st_R ha (by decide)) (by omega) (st_K a h5 ha).1 (fun M4 b4 => ?_)
  refine r_aload_n dX7_init_36 rfl ?_
  refine r_bipush dX7_init_37 (by decide) ?_
  refine g_arr (n := (a + 5)) (len := 32) (t := 20) (j := 4) (pc1 := 41) b4 (fun k => r_newarray_int dX7_init_39 (by decide) k) dX7_init_41 kF7_24 rfl (by rfl) (st_K a h5 ha).2.2.2.2.2.1 (st_R ha (by decide)) (by omega) (st_K a h5 ha).1 (fun M5 b5 => ?_)
  refine r_aload_n dX7_init_44 rfl ?_
  refine r_bipush dX7_init_45 (by decide) ?_
  refine g_arr (n := (a + 6)) (len := 8) (t := 20) (j := 5) (pc1 := 49) b5 (fun k => r_newarray_int dX7_init_47 (by decide) k) dX7_init_49 kF7_27 rfl (by rfl) (st_K a h5 ha).2.2.2.2.2.2.1 (st_R ha (by decide)) (by omega) (st_K a h5 ha).1 (fun M6 b6 => ?_)
  refine r_aload_n dX7_init_52 rfl ?_
  refine r_bipush dX7_init_53 (by decide) ?_
  refine g_arr (n := (a + 7)) (len := 60) (t := 20) (j := 6) (pc1 := 57) b6 (fun k => r_newarray_int dX7_init_55 (by decide) k) dX7_init_57 kF7_30 rfl (by rfl) (st_K a h5 ha).2.2.2.2.2.2.2 (st_R ha (by decide)) (by omega) (st_K a h5 ha).1 (fun M7 b7 => ?_)
  exact r_vret dX7_init_60 rfl (K _ b7)
theorem ctor3 {d w : Nat} {V : List (Nat × Nat × Int)} {D : Nat → Nat → Bool} {M0 M : jM} {Q : Option jV → jM → Prop} (hd : 1 ≤ d) (hB : BdM (21) w V D M0 M) (K : ∀ M2, BdM (27) ((((((w + 240) + 240) + 64) + 64) + 64) + 64) V (adD (adD (adD (adD (adD (adD D 20 0) 20 1) 20 3) 20 4) 20 5) 20 7) M0 M2 → Q none M2) : Call d mX3_init [vR 20] M Q := by
  obtain ⟨e, rfl⟩ := dd (d := d) (by omega)
  have h0 : (20 : Nat) ≠ 0 := by decide
  show Run (e + 1) mX3_init 0 [some (vR 20)] [] M Q
  refine r_aload_n dX3_init_0 rfl ?_
  refine r_obj dX3_init_1 kO3_3 h0 (by decide) ?_
  refine r_aload_n dX3_init_4 rfl ?_
  refine r_sipush dX3_init_5 (by decide) ?_
  refine g_arr (n := 21) (len := 240) (t := 20) (j := 0) (pc1 := 10) hB (fun k => r_newarray_int dX3_init_8 (by decide) k) dX3_init_10 kF3_9 rfl (by rfl) (by rfl) (by rfl) (by decide) (by rfl) (fun M1 b1 => ?_)
  refine r_aload_n dX3_init_13 rfl ?_
  refine r_sipush dX3_init_14 (by decide) ?_
  refine g_arr (n := 22) (len := 240) (t := 20) (j := 1) (pc1 := 19) b1 (fun k => r_newarray_int dX3_init_17 (by decide) k) dX3_init_19 kF3_15 rfl (by rfl) (by rfl) (by rfl) (by decide) (by rfl) (fun M2 b2 => ?_)
  refine r_aload_n dX3_init_22 rfl ?_
  refine r_bipush dX3_init_23 (by decide) ?_
  refine g_arr (n := 23) (len := 64) (t := 20) (j := 3) (pc1 := 27) b2 (fun k => r_newarray_int dX3_init_25 (by decide) k) dX3_init_27 kF3_18 rfl (by rfl) (by rfl) (by rfl) (by decide) (by rfl) (fun M3 b3 => ?_)
  refine r_aload_n dX3_init_30 rfl ?_
  refine r_bipush dX3_init_31 (by decide) ?_
  refine g_arr (n := 24) (len := 64) (t := 20) (j := 4) (pc1 := 35) b3 (fun k => r_newarray_int dX3_init_33 (by decide) k) dX3_init_35 kF3_21 rfl (by rfl) (by rfl) (by rfl) (by decide) (by rfl) (fun M4 b4 => ?_)
  refine r_aload_n dX3_init_38 rfl ?_
  refine r_bipush dX3_init_39 (by decide) ?_
  refine g_arr (n := 25) (len := 64) (t := 20) (j := 5) (pc1 := 43) b4 (fun k => r_newarray_int dX3_init_41 (by decide) k) dX3_init_43 kF3_24 rfl (by rfl) (by rfl) (by rfl) (by decide) (by rfl) (fun M5 b5 => ?_)
  refine r_aload_n dX3_init_46 rfl ?_
  refine r_bipush dX3_init_47 (by decide) ?_
  refine g_arr (n := 26) (len := 64) (t := 20) (j := 7) (pc1 := 51) b5 (fun k => r_newarray_int dX3_init_49 (by decide) k) dX3_init_51 kF3_27 rfl (by rfl) (by rfl) (by rfl) (by decide) (by rfl) (fun M6 b6 => ?_)
  exact r_vret dX3_init_54 rfl (K _ b6)
theorem ctor2 {d w : Nat} {V : List (Nat × Nat × Int)} {D : Nat → Nat → Bool} {M0 M : jM} {Q : Option jV → jM → Prop} (hd : 1 ≤ d) (hB : BdM (10) w V D M0 M) (K : ∀ M2, BdM (19) (((((((((w + 4) + 4) + 8) + 8) + 8) + 12) + 12) + 12) + 12) V (adD (adD (adD (adD (adD (adD (adD (adD (adD D 9 0) 9 1) 9 4) 9 5) 9 6) 9 8) 9 9) 9 10) 9 11) M0 M2 → Q none M2) : Call d mX2_init [vR 9] M Q := by
  obtain ⟨e, rfl⟩ := dd (d := d) (by omega)
  have h0 : (9 : Nat) ≠ 0 := by decide
  show Run (e + 1) mX2_init 0 [some (vR 9)] [] M Q
  refine r_aload_n dX2_init_0 rfl ?_
  refine r_obj dX2_init_1 kO2_3 h0 (by decide) ?_
  refine r_aload_n dX2_init_4 rfl ?_
  refine r_iconst dX2_init_5 (by decide) ?_
  refine g_arr (n := 10) (len := 4) (t := 20) (j := 0) (pc1 := 8) hB (fun k => r_newarray_int dX2_init_6 (by decide) k) dX2_init_8 kF2_11 rfl (by rfl) (by rfl) (by rfl) (by decide) (by rfl) (fun M1 b1 => ?_)
  refine r_aload_n dX2_init_11 rfl ?_
  refine r_iconst dX2_init_12 (by decide) ?_
  refine g_arr (n := 11) (len := 4) (t := 20) (j := 1) (pc1 := 15) b1 (fun k => r_newarray_int dX2_init_13 (by decide) k) dX2_init_15 kF2_15 rfl (by rfl) (by rfl) (by rfl) (by decide) (by rfl) (fun M2 b2 => ?_)
  refine r_aload_n dX2_init_18 rfl ?_
  refine r_bipush dX2_init_19 (by decide) ?_
  refine g_arr (n := 12) (len := 8) (t := 20) (j := 4) (pc1 := 23) b2 (fun k => r_newarray_int dX2_init_21 (by decide) k) dX2_init_23 kF2_18 rfl (by rfl) (by rfl) (by rfl) (by decide) (by rfl) (fun M3 b3 => ?_)
  refine r_aload_n dX2_init_26 rfl ?_
  refine r_bipush dX2_init_27 (by decide) ?_
  refine g_arr (n := 13) (len := 8) (t := 20) (j := 5) (pc1 := 31) b3 (fun k => r_newarray_int dX2_init_29 (by decide) k) dX2_init_31 kF2_21 rfl (by rfl) (by rfl) (by rfl) (by decide) (by rfl) (fun M4 b4 => ?_)
  refine r_aload_n dX2_init_34 rfl ?_
  refine r_bipush dX2_init_35 (by decide) ?_
  refine g_arr (n := 14) (len := 8) (t := 20) (j := 6) (pc1 := 39) b4 (fun k => r_newarray_int dX2_init_37 (by decide) k) dX2_init_39 kF2_24 rfl (by rfl) (by rfl) (by rfl) (by decide) (by rfl) (fun M5 b5 => ?_)
  refine r_aload_n dX2_init_42 rfl ?_
  refine r_bipush dX2_init_43 (by decide) ?_
  refine g_arr (n := 15) (len := 12) (t := 20) (j := 8) (pc1 := 47) b5 (fun k => r_newarray_int dX2_init_45 (by decide) k) dX2_init_47 kF2_27 rfl (by rfl) (by rfl) (by rfl) (by decide) (by rfl) (fun M6 b6 => ?_)
  refine r_aload_n dX2_init_50 rfl ?_
  refine r_bipush dX2_init_51 (by decide) ?_
  refine g_arr (n := 16) (len := 12) (t := 20) (j := 9) (pc1 := 55) b6 (fun k => r_newarray_int dX2_init_53 (by decide) k) dX2_init_55 kF2_30 rfl (by rfl) (by rfl) (by rfl) (by decide) (by rfl) (fun M7 b7 => ?_)
  refine r_aload_n dX2_init_58 rfl ?_
  refine r_bipush dX2_init_59 (by decide) ?_
  refine g_arr (n := 17) (len := 12) (t := 20) (j := 10) (pc1 := 63) b7 (fun k => r_newarray_int dX2_init_61 (by decide) k) dX2_init_63 kF2_33 rfl (by rfl) (by rfl) (by rfl) (by decide) (by rfl) (fun M8 b8 => ?_)
  refine r_aload_n dX2_init_66 rfl ?_
  refine r_bipush dX2_init_67 (by decide) ?_
  refine g_arr (n := 18) (len := 12) (t := 20) (j := 11) (pc1 := 71) b8 (fun k => r_newarray_int dX2_init_69 (by decide) k) dX2_init_71 kF2_36 rfl (by rfl) (by rfl) (by rfl) (by decide) (by rfl) (fun M9 b9 => ?_)
  exact r_vret dX2_init_74 rfl (K _ b9)
theorem ctor1 {d w : Nat} {V : List (Nat × Nat × Int)} {D : Nat → Nat → Bool} {M0 M : jM} {Q : Option jV → jM → Prop} (hd : 1 ≤ d) (hB : BdM (30) w V D M0 M) (K : ∀ M2, BdM (33) (((w + 8) + 8) + 6) V (adD (adD (adD D 29 3) 29 4) 29 6) M0 M2 → Q none M2) : Call d mX1_init [vR 29] M Q := by
  obtain ⟨e, rfl⟩ := dd (d := d) (by omega)
  have h0 : (29 : Nat) ≠ 0 := by decide
  show Run (e + 1) mX1_init 0 [some (vR 29)] [] M Q
  refine r_aload_n dX1_init_0 rfl ?_
  refine r_obj dX1_init_1 kO1_3 h0 (by decide) ?_
  refine r_aload_n dX1_init_4 rfl ?_
  refine r_bipush dX1_init_5 (by decide) ?_
  refine g_arr (n := 30) (len := 8) (t := 20) (j := 3) (pc1 := 9) hB (fun k => r_newarray_int dX1_init_7 (by decide) k) dX1_init_9 kF1_9 rfl (by rfl) (by rfl) (by rfl) (by decide) (by rfl) (fun M1 b1 => ?_)
  refine r_aload_n dX1_init_12 rfl ?_
  refine r_bipush dX1_init_13 (by decide) ?_
  refine g_arr (n := 31) (len := 8) (t := 20) (j := 4) (pc1 := 17) b1 (fun k => r_newarray_int dX1_init_15 (by decide) k) dX1_init_17 kF1_15 rfl (by rfl) (by rfl) (by rfl) (by decide) (by rfl) (fun M2 b2 => ?_)
  refine r_aload_n dX1_init_20 rfl ?_
  refine r_bipush dX1_init_21 (by decide) ?_
  refine g_arr (n := 32) (len := 6) (t := 20) (j := 6) (pc1 := 25) b2 (fun k => r_newarray_int dX1_init_23 (by decide) k) dX1_init_25 kF1_20 rfl (by rfl) (by rfl) (by rfl) (by decide) (by rfl) (fun M3 b3 => ?_)
  exact r_vret dX1_init_28 rfl (K _ b3)
theorem ctor0 {d w : Nat} {V : List (Nat × Nat × Int)} {D : Nat → Nat → Bool} {M0 M : jM} {Q : Option jV → jM → Prop} (hd : 1 ≤ d) (hB : BdM (406) w V D M0 M) (K : ∀ M2, BdM (409) (((w + 8) + 256) + 256) V (adD (adD (adD D 405 0) 405 2) 405 3) M0 M2 → Q none M2) : Call d mX0_init [vR 405] M Q := by
  obtain ⟨e, rfl⟩ := dd (d := d) (by omega)
  have h0 : (405 : Nat) ≠ 0 := by decide
  show Run (e + 1) mX0_init 0 [some (vR 405)] [] M Q
  refine r_aload_n dX0_init_0 rfl ?_
  refine r_obj dX0_init_1 kO0_3 h0 (by decide) ?_
  refine r_aload_n dX0_init_4 rfl ?_
  refine r_bipush dX0_init_5 (by decide) ?_
  refine g_arr (n := 406) (len := 8) (t := 21) (j := 0) (pc1 := 9) hB (fun k => r_newarray_long dX0_init_7 (by decide) k) dX0_init_9 kF0_9 rfl (by rfl) (by rfl) (by rfl) (by decide) (by rfl) (fun M1 b1 => ?_)
  refine r_aload_n dX0_init_12 rfl ?_
  refine r_sipush dX0_init_13 (by decide) ?_
  refine g_arr (n := 407) (len := 256) (t := 22) (j := 2) (pc1 := 18) b1 (fun k => r_newarray_boolean dX0_init_16 (by decide) k) dX0_init_18 kF0_15 rfl (by rfl) (by rfl) (by rfl) (by decide) (by rfl) (fun M2 b2 => ?_)
  refine r_aload_n dX0_init_21 rfl ?_
  refine r_sipush dX0_init_22 (by decide) ?_
  refine g_arr (n := 408) (len := 256) (t := 20) (j := 3) (pc1 := 27) b2 (fun k => r_newarray_int dX0_init_25 (by decide) k) dX0_init_27 kF0_19 rfl (by rfl) (by rfl) (by rfl) (by decide) (by rfl) (fun M3 b3 => ?_)
  exact r_vret dX0_init_30 rfl (K _ b3)
theorem ctor8 {d w : Nat} {D : Nat → Nat → Bool} {M0 M : jM} {Q : Option jV → jM → Prop} (hd : 1 ≤ d) (hB : BdM (8) w [] D M0 M) (K : ∀ M2, BdM (9) (w + 240) ((7, 3, (-1 : Int)) :: []) (adD D 7 0) M0 M2 → Q none M2) : Call d mX8_init [vR 7] M Q := by
  obtain ⟨e, rfl⟩ := dd (d := d) (by omega)
  have h0 : (7 : Nat) ≠ 0 := by decide
  show Run (e + 1) mX8_init 0 [some (vR 7)] [] M Q
  refine r_aload_n dX8_init_0 rfl ?_
  refine r_obj dX8_init_1 kO8_3 h0 (by decide) ?_
  refine r_aload_n dX8_init_4 rfl ?_
  refine r_sipush dX8_init_5 (by decide) ?_
  refine g_arr (n := 8) (len := 240) (t := 20) (j := 0) (pc1 := 10) hB (fun k => r_newarray_int dX8_init_8 (by decide) k) dX8_init_10 kF8_9 rfl (by rfl) (by rfl) (by rfl) (by decide) (by rfl) (fun M1 b1 => ?_)
  refine r_aload_n dX8_init_13 rfl ?_
  refine r_iconst dX8_init_14 (by decide) ?_
  refine g_int (z := -1) b1 dX8_init_15 kF8_15 rfl (by rfl) (by decide) (by rfl) (by rfl) (by simp) (fun M2 b2 => ?_)
  exact r_vret dX8_init_18 rfl (K _ b2)
theorem ctor4 {d w : Nat} {V : List (Nat × Nat × Int)} {D : Nat → Nat → Bool} {M0 M : jM} {Q : Option jV → jM → Prop} (hd : 2 ≤ d) (hB : BdM (20) w V D M0 M) (K : ∀ M2, BdM (27) (((((((w + 8) + 240) + 240) + 64) + 64) + 64) + 64) V (adD (adD (adD (adD (adD (adD (adD D 20 0) 20 1) 20 3) 20 4) 20 5) 20 7) 19 0) M0 M2 → Q none M2) : Call d mX4_init [vR 19] M Q := by
  obtain ⟨e, rfl⟩ := dd (d := d) (by omega)
  obtain ⟨e, rfl⟩ : ∃ e2, e = e2 + 1 := ⟨e - 1, by omega⟩
  have h0 : (19 : Nat) ≠ 0 := by decide
  show Run (e + 1 + 1) mX4_init 0 [some (vR 19)] [] M Q
  refine r_aload_n dX4_init_0 rfl ?_
  refine r_obj dX4_init_1 kO4_3 h0 (by decide) ?_
  refine r_aload_n dX4_init_4 rfl ?_
  refine g_new (n := 20) (c2 := 3) (j := 0) (n2 := 27) (w2 := (((((((w + 8) + 240) + 240) + 64) + 64) + 64) + 64)) (V2 := V) (D2 := (adD (adD (adD (adD (adD (adD D 20 0) 20 1) 20 3) 20 4) 20 5) 20 7)) hB dX4_init_5 kN4_9 dX4_init_8 dX4_init_9 (by rfl) kM4_11 (by decide) rfl (by rfl) (Nat.le_of_ble_eq_true rfl) (by rfl) (by rfl) (fun N P b K => ctor3 (by omega) b K) (by decide) dX4_init_12 kF4_12 rfl (by rfl) (by rfl) (by decide) (by rfl) (fun M1 b1 => ?_)
  exact r_vret dX4_init_15 rfl (K _ b1)
theorem ctor6 {d w : Nat} {V : List (Nat × Nat × Int)} {D : Nat → Nat → Bool} {M0 M : jM} {Q : Option jV → jM → Prop} (hd : 2 ≤ d) (hB : BdM (388) w V D M0 M) (K : ∀ M2, BdM (405) (((((((((((((((((w + 10) + 10) + 10) + 10) + 10) + 32) + 32) + 32) + 32) + 32) + 8) + 60) + 288) + 72) + 1944) + 1512) + 64) V (adD (adD (adD (adD (adD (adD (adD (adD (adD (adD (adD (adD (adD (adD (adD (adD (adD D 387 0) 387 1) 387 2) 387 3) 392 0) 392 1) 392 2) 392 3) 392 4) 392 5) 392 6) 387 6) 387 7) 387 8) 387 9) 387 10) 387 12) M0 M2 → Q none M2) : Call d mX6_init [vR 387] M Q := by
  obtain ⟨e, rfl⟩ := dd (d := d) (by omega)
  obtain ⟨e, rfl⟩ : ∃ e2, e = e2 + 1 := ⟨e - 1, by omega⟩
  have h0 : (387 : Nat) ≠ 0 := by decide
  show Run (e + 1 + 1) mX6_init 0 [some (vR 387)] [] M Q
  refine r_aload_n dX6_init_0 rfl ?_
  refine r_obj dX6_init_1 kO6_5 h0 (by decide) ?_
  refine r_aload_n dX6_init_4 rfl ?_
  refine r_bipush dX6_init_5 (by decide) ?_
  refine g_arr (n := 388) (len := 10) (t := 20) (j := 0) (pc1 := 9) hB (fun k => r_newarray_int dX6_init_7 (by decide) k) dX6_init_9 kF6_11 rfl (by rfl) (by rfl) (by rfl) (by decide) (by rfl) (fun M1 b1 => ?_)
  refine r_aload_n dX6_init_12 rfl ?_
  refine r_bipush dX6_init_13 (by decide) ?_
  refine g_arr (n := 389) (len := 10) (t := 20) (j := 1) (pc1 := 17) b1 (fun k => r_newarray_int dX6_init_15 (by decide) k) dX6_init_17 kF6_15 rfl (by rfl) (by rfl) (by rfl) (by decide) (by rfl) (fun M2 b2 => ?_)
  refine r_aload_n dX6_init_20 rfl ?_
  refine r_bipush dX6_init_21 (by decide) ?_
  refine g_arr (n := 390) (len := 10) (t := 20) (j := 2) (pc1 := 25) b2 (fun k => r_newarray_int dX6_init_23 (by decide) k) dX6_init_25 kF6_18 rfl (by rfl) (by rfl) (by rfl) (by decide) (by rfl) (fun M3 b3 => ?_)
  refine r_aload_n dX6_init_28 rfl ?_
  refine r_bipush dX6_init_29 (by decide) ?_
  refine g_arr (n := 391) (len := 10) (t := 20) (j := 3) (pc1 := 33) b3 (fun k => r_newarray_int dX6_init_31 (by decide) k) dX6_init_33 kF6_21 rfl (by rfl) (by rfl) (by rfl) (by decide) (by rfl) (fun M4 b4 => ?_)
  refine r_aload_n dX6_init_36 rfl ?_
  refine g_new (n := 392) (c2 := 7) (j := 6) (n2 := 400) (w2 := ((((((((((((w + 10) + 10) + 10) + 10) + 10) + 32) + 32) + 32) + 32) + 32) + 8) + 60)) (V2 := V) (D2 := (adD (adD (adD (adD (adD (adD (adD (adD (adD (adD (adD D 387 0) 387 1) 387 2) 387 3) 392 0) 392 1) 392 2) 392 3) 392 4) 392 5) 392 6)) b4 dX6_init_37 kN6_24 dX6_init_40 dX6_init_41 (by rfl) kM6_26 (by decide) rfl (by rfl) (Nat.le_of_ble_eq_true rfl) (by rfl) (by rfl) (fun N P b K => ctor7 (by omega) b (by decide) K) (by decide) dX6_init_44 kF6_27 rfl (by rfl) (by rfl) (by decide) (by rfl) (fun M5 b5 => ?_)
  refine r_aload_n dX6_init_47 rfl ?_
  refine r_sipush dX6_init_48 (by decide) ?_
  refine g_arr (n := 400) (len := 288) (t := 20) (j := 7) (pc1 := 53) b5 (fun k => r_newarray_int dX6_init_51 (by decide) k) dX6_init_53 kF6_31 rfl (by rfl) (by rfl) (by rfl) (by decide) (by rfl) (fun M6 b6 => ?_)
  refine r_aload_n dX6_init_56 rfl ?_
  refine r_bipush dX6_init_57 (by decide) ?_
  refine g_arr (n := 401) (len := 72) (t := 21) (j := 8) (pc1 := 61) b6 (fun k => r_newarray_long dX6_init_59 (by decide) k) dX6_init_61 kF6_34 rfl (by rfl) (by rfl) (by rfl) (by decide) (by rfl) (fun M7 b7 => ?_)
  refine r_aload_n dX6_init_64 rfl ?_
  refine r_sipush dX6_init_65 (by decide) ?_
  refine g_arr (n := 402) (len := 1944) (t := 20) (j := 9) (pc1 := 70) b7 (fun k => r_newarray_int dX6_init_68 (by decide) k) dX6_init_70 kF6_38 rfl (by rfl) (by rfl) (by rfl) (by decide) (by rfl) (fun M8 b8 => ?_)
  refine r_aload_n dX6_init_73 rfl ?_
  refine r_sipush dX6_init_74 (by decide) ?_
  refine g_arr (n := 403) (len := 1512) (t := 20) (j := 10) (pc1 := 79) b8 (fun k => r_newarray_int dX6_init_77 (by decide) k) dX6_init_79 kF6_41 rfl (by rfl) (by rfl) (by rfl) (by decide) (by rfl) (fun M9 b9 => ?_)
  refine r_aload_n dX6_init_82 rfl ?_
  refine r_bipush dX6_init_83 (by decide) ?_
  refine g_arr (n := 404) (len := 64) (t := 20) (j := 12) (pc1 := 87) b9 (fun k => r_newarray_int dX6_init_85 (by decide) k) dX6_init_87 kF6_44 rfl (by rfl) (by rfl) (by rfl) (by decide) (by rfl) (fun M10 b10 => ?_)
  exact r_vret dX6_init_90 rfl (K _ b10)
theorem ctor5 {d w : Nat} {V : List (Nat × Nat × Int)} {D : Nat → Nat → Bool} {M0 M : jM} {Q : Option jV → jM → Prop} (hd : 2 ≤ d) (hB : BdM (66) w V D M0 M) (K : ∀ M2, BdM (387) (lpW (w + 40) 40) V (lpD (adD D 65 0) 66 67 40) M0 M2 → Q none M2) : Call d mX5_init [vR 65] M Q := by
  obtain ⟨e, rfl⟩ := dd (d := d) (by omega)
  obtain ⟨e, rfl⟩ : ∃ e2, e = e2 + 1 := ⟨e - 1, by omega⟩
  have h0 : (65 : Nat) ≠ 0 := by decide
  show Run (e + 1 + 1) mX5_init 0 [some (vR 65), none] [] M Q
  refine r_aload_n dX5_init_0 rfl ?_
  refine r_obj dX5_init_1 kO5_3 h0 (by decide) ?_
  refine r_aload_n dX5_init_4 rfl ?_
  refine r_bipush dX5_init_5 (by decide) ?_
  refine g_arr (n := 66) (len := 40) (t := 23) (j := 0) (pc1 := 10) hB (fun k => r_anewarray dX5_init_7 kA5_9 (by decide) k) dX5_init_10 kF5_11 rfl (by rfl) (by rfl) (by rfl) (by decide) (by rfl) (fun M1 b1 => ?_)
  refine r_iconst dX5_init_13 (by decide) ?_
  refine r_istore_n (ls2 := [some (vR 65), some (vI 0)]) dX5_init_14 (Nat.le_of_ble_eq_true rfl) rfl ?_
  have key : ∀ (n k : Nat) (N : jM), k + n = 40 → BdM (67 + 8 * k) (lpW (w + 40) k) V (lpD (adD D 65 0) 66 67 k) M0 N → Run (e + 1 + 1) mX5_init 15 [some (vR 65), some (vI (k : Int))] [] N Q := by
    intro n
    induction n with
    | zero =>
      intro k N hk bN
      obtain rfl : k = 40 := by omega
      have e65 : rv N 65 0 = 66 := bN.2.2.2.2.2.2.2.2.1 65 0 66 (lpD_0 (adD_t.mpr (Or.inr ⟨rfl, rfl⟩)) _) (by rfl)
      have o65 : jobj N 5 65 = true := bN.ob (by omega) (by rfl)
      have r66 : jro N 23 40 66 := ⟨by decide, by have := bN.1; omega, by rw [bN.2.2.2.2.1 66 (by decide) (by omega)]; rfl⟩
      refine r_iload_n dX5_init_15 rfl ?_
      refine r_aload_n dX5_init_16 rfl ?_
      refine r_getS (v := 66) dX5_init_17 kF5_11 o65 e65 ?_
      refine r_lenS dX5_init_20 r66 (by decide) ?_
      refine r_icmp_ge (tgt := 43) dX5_init_21 rfl (fun _ => ?_) (fun z => absurd (show ((40 : Nat) : Int) ≤ ((40 : Nat) : Int) by omega) z)
      exact r_vret dX5_init_43 rfl (K _ bN)
    | succ n ih =>
      intro k N hk bN
      have e65 : rv N 65 0 = 66 := bN.2.2.2.2.2.2.2.2.1 65 0 66 (lpD_0 (adD_t.mpr (Or.inr ⟨rfl, rfl⟩)) _) (by rfl)
      have o65 : jobj N 5 65 = true := bN.ob (by omega) (by rfl)
      have r66 : jro N 23 40 66 := ⟨by decide, by have := bN.1; omega, by rw [bN.2.2.2.2.1 66 (by decide) (by omega)]; rfl⟩
      refine r_iload_n dX5_init_15 rfl ?_
      refine r_aload_n dX5_init_16 rfl ?_
      refine r_getS (v := 66) dX5_init_17 kF5_11 o65 e65 ?_
      refine r_lenS dX5_init_20 r66 (by decide) ?_
      refine r_icmp_ge (tgt := 43) dX5_init_21 rfl (fun z => absurd z (by omega)) (fun _ => ?_)
      refine r_aload_n dX5_init_24 rfl ?_
      refine r_getS (v := 66) dX5_init_25 kF5_11 o65 e65 ?_
      refine r_iload_n dX5_init_28 rfl ?_
      have hs : isSt (67 + 8 * k) = true := by unfold isSt; simp only [decide_eq_true_eq]; omega
      have hK := (st_K (67 + 8 * k) (by omega) hs).1
      have b1 := bN.anw (len := 10) hK
      refine r_new dX5_init_29 kN5_9 ?_
      refine r_dupR dX5_init_32 ?_
      rw [bN.1, js7]
      have o1 : jobj (nw N (7, 0) 10) mX7_init.1 (67 + 8 * k) = true := b1.ob ⟨by omega, by omega⟩ hK
      refine r_invI dX5_init_33 (by rfl) kM5_17 (by decide) (Nat.zero_le _) (as := []) (q := [vR (67 + 8 * k), vI (k : Int), vR 66]) rfl rfl (Nat.le_of_ble_eq_true rfl) (Nat.le_of_ble_eq_true rfl) o1 (by rfl) ?_
      refine ctor7 (by omega) b1 hs (fun N2 b2 => ?_)
      show Run (e + 1 + 1) mX5_init 36 _ [vR (67 + 8 * k), vI (k : Int), vR 66] N2 Q
      have r66b : jro N2 23 40 66 := ⟨by decide, by have := b2.1; omega, by rw [b2.2.2.2.2.1 66 (by decide) (by omega)]; rfl⟩
      have o2 : jobj N2 7 (67 + 8 * k) = true := b2.ob ⟨by omega, by omega⟩ hK
      refine r_aastore dX5_init_36 ⟨Or.inl ⟨jro_ix r66b (by omega), o2⟩, by decide, by omega⟩ ?_
      rw [Int.toNat_natCast]
      refine r_iinc (ls2 := [some (vR 65), some (vI ((k + 1 : Nat) : Int))]) dX5_init_37 rfl (by rw [show w32 ((k : Int) + 1) = ((k + 1 : Nat) : Int) by rw [w32_i (by omega) (by omega)]; omega]; rfl) ?_
      refine r_goto (tgt := 15) dX5_init_40 rfl ?_
      have hR : R1 66 k = some (67 + 8 * k) := by
        unfold R1
        rw [if_neg (by decide), if_pos rfl, if_pos (by omega)]
      have b3 := b2.asr (a := 66) (j := k) (by omega) hR
      have b4 := BdM.as (n2 := 67 + 8 * (k + 1)) b3 (by omega)
      exact ih (k + 1) _ (by omega) b4
  exact key 40 0 M1 (by omega) b1
theorem ctor9 {d w : Nat} {V : List (Nat × Nat × Int)} {D : Nat → Nat → Bool} {M0 M : jM} {Q : Option jV → jM → Prop} (hd : 2 ≤ d) (hB : BdM (410) w V D M0 M) (K : ∀ M2, BdM (467) (lpW (w + 7) 7) V (lpD (adD D 409 0) 410 411 7) M0 M2 → Q none M2) : Call d mX9_init [vR 409] M Q := by
  obtain ⟨e, rfl⟩ := dd (d := d) (by omega)
  obtain ⟨e, rfl⟩ : ∃ e2, e = e2 + 1 := ⟨e - 1, by omega⟩
  have h0 : (409 : Nat) ≠ 0 := by decide
  show Run (e + 1 + 1) mX9_init 0 [some (vR 409), none] [] M Q
  refine r_aload_n dX9_init_0 rfl ?_
  refine r_obj dX9_init_1 kO9_3 h0 (by decide) ?_
  refine r_aload_n dX9_init_4 rfl ?_
  refine r_bipush dX9_init_5 (by decide) ?_
  refine g_arr (n := 410) (len := 7) (t := 23) (j := 0) (pc1 := 10) hB (fun k => r_anewarray dX9_init_7 kA9_9 (by decide) k) dX9_init_10 kF9_11 rfl (by rfl) (by rfl) (by rfl) (by decide) (by rfl) (fun M1 b1 => ?_)
  refine r_iconst dX9_init_13 (by decide) ?_
  refine r_istore_n (ls2 := [some (vR 409), some (vI 0)]) dX9_init_14 (Nat.le_of_ble_eq_true rfl) rfl ?_
  have key : ∀ (n k : Nat) (N : jM), k + n = 7 → BdM (411 + 8 * k) (lpW (w + 7) k) V (lpD (adD D 409 0) 410 411 k) M0 N → Run (e + 1 + 1) mX9_init 15 [some (vR 409), some (vI (k : Int))] [] N Q := by
    intro n
    induction n with
    | zero =>
      intro k N hk bN
      obtain rfl : k = 7 := by omega
      have e65 : rv N 409 0 = 410 := bN.2.2.2.2.2.2.2.2.1 409 0 410 (lpD_0 (adD_t.mpr (Or.inr ⟨rfl, rfl⟩)) _) (by rfl)
      have o65 : jobj N 9 409 = true := bN.ob (by omega) (by rfl)
      have r66 : jro N 23 7 410 := ⟨by decide, by have := bN.1; omega, by rw [bN.2.2.2.2.1 410 (by decide) (by omega)]; rfl⟩
      refine r_iload_n dX9_init_15 rfl ?_
      refine r_aload_n dX9_init_16 rfl ?_
      refine r_getS (v := 410) dX9_init_17 kF9_11 o65 e65 ?_
      refine r_lenS dX9_init_20 r66 (by decide) ?_
      refine r_icmp_ge (tgt := 43) dX9_init_21 rfl (fun _ => ?_) (fun z => absurd (show ((7 : Nat) : Int) ≤ ((7 : Nat) : Int) by omega) z)
      exact r_vret dX9_init_43 rfl (K _ bN)
    | succ n ih =>
      intro k N hk bN
      have e65 : rv N 409 0 = 410 := bN.2.2.2.2.2.2.2.2.1 409 0 410 (lpD_0 (adD_t.mpr (Or.inr ⟨rfl, rfl⟩)) _) (by rfl)
      have o65 : jobj N 9 409 = true := bN.ob (by omega) (by rfl)
      have r66 : jro N 23 7 410 := ⟨by decide, by have := bN.1; omega, by rw [bN.2.2.2.2.1 410 (by decide) (by omega)]; rfl⟩
      refine r_iload_n dX9_init_15 rfl ?_
      refine r_aload_n dX9_init_16 rfl ?_
      refine r_getS (v := 410) dX9_init_17 kF9_11 o65 e65 ?_
      refine r_lenS dX9_init_20 r66 (by decide) ?_
      refine r_icmp_ge (tgt := 43) dX9_init_21 rfl (fun z => absurd z (by omega)) (fun _ => ?_)
      refine r_aload_n dX9_init_24 rfl ?_
      refine r_getS (v := 410) dX9_init_25 kF9_11 o65 e65 ?_
      refine r_iload_n dX9_init_28 rfl ?_
      have hs : isSt (411 + 8 * k) = true := by unfold isSt; simp only [decide_eq_true_eq]; omega
      have hK := (st_K (411 + 8 * k) (by omega) hs).1
      have b1 := bN.anw (len := 10) hK
      refine r_new dX9_init_29 kN9_9 ?_
      refine r_dupR dX9_init_32 ?_
      rw [bN.1, js7]
      have o1 : jobj (nw N (7, 0) 10) mX7_init.1 (411 + 8 * k) = true := b1.ob ⟨by omega, by omega⟩ hK
      refine r_invI dX9_init_33 (by rfl) kM9_17 (by decide) (Nat.zero_le _) (as := []) (q := [vR (411 + 8 * k), vI (k : Int), vR 410]) rfl rfl (Nat.le_of_ble_eq_true rfl) (Nat.le_of_ble_eq_true rfl) o1 (by rfl) ?_
      refine ctor7 (by omega) b1 hs (fun N2 b2 => ?_)
      show Run (e + 1 + 1) mX9_init 36 _ [vR (411 + 8 * k), vI (k : Int), vR 410] N2 Q
      have r66b : jro N2 23 7 410 := ⟨by decide, by have := b2.1; omega, by rw [b2.2.2.2.2.1 410 (by decide) (by omega)]; rfl⟩
      have o2 : jobj N2 7 (411 + 8 * k) = true := b2.ob ⟨by omega, by omega⟩ hK
      refine r_aastore dX9_init_36 ⟨Or.inl ⟨jro_ix r66b (by omega), o2⟩, by decide, by omega⟩ ?_
      rw [Int.toNat_natCast]
      refine r_iinc (ls2 := [some (vR 409), some (vI ((k + 1 : Nat) : Int))]) dX9_init_37 rfl (by rw [show w32 ((k : Int) + 1) = ((k + 1 : Nat) : Int) by rw [w32_i (by omega) (by omega)]; omega]; rfl) ?_
      refine r_goto (tgt := 15) dX9_init_40 rfl ?_
      have hR : R1 410 k = some (411 + 8 * k) := by
        unfold R1
        rw [if_neg (by decide), if_neg (by decide), if_pos rfl, if_pos (by omega)]
      have b3 := b2.asr (a := 410) (j := k) (by omega) hR
      have b4 := BdM.as (n2 := 411 + 8 * (k + 1)) b3 (by omega)
      exact ih (k + 1) _ (by omega) b4
  exact key 7 0 M1 (by omega) b1
theorem ctor10 {d w : Nat} {D : Nat → Nat → Bool} {M0 M : jM} {Q : Option jV → jM → Prop} (hd : 3 ≤ d) (hB : BdM (7) w [] D M0 M) (K : ∀ M2, BdM (468) ((lpW (((((((((((((((((((((((((lpW ((((((((((((((((((((((((((((((((((((((((((((((((((((((((((((w + 4) + 240) + 12) + 4) + 4) + 8) + 8) + 8) + 12) + 12) + 12) + 12) + 1) + 8) + 240) + 240) + 64) + 64) + 64) + 64) + 4) + 5) + 7) + 8) + 8) + 6) + 10) + 32) + 32) + 32) + 32) + 32) + 8) + 60) + 10) + 32) + 32) + 32) + 32) + 32) + 8) + 60) + 10) + 32) + 32) + 32) + 32) + 32) + 8) + 60) + 10) + 32) + 32) + 32) + 32) + 32) + 8) + 60) + 3) + 40) 40) + 13) + 10) + 10) + 10) + 10) + 10) + 32) + 32) + 32) + 32) + 32) + 8) + 60) + 288) + 72) + 1944) + 1512) + 64) + 4) + 8) + 256) + 256) + 1) + 7) 7) + 18) ((6, 6, (4 : Int)) :: ((6, 5, (-1 : Int)) :: ((7, 3, (-1 : Int)) :: []))) (adD (adD (lpD (adD (adD (adD (adD (adD (adD (adD (adD (adD (adD (adD (adD (adD (adD (adD (adD (adD (adD (adD (adD (adD (adD (adD (adD (lpD (adD (adD (adD (adD (adD (adD (adD (adD (adD (adD (adD (adD (adD (adD (adD (adD (adD (adD (adD (adD (adD (adD (adD (adD (adD (adD (adD (adD (adD (adD (adD (adD (adD (adD (adD (adD (adD (adD (adD (adD (adD (adD (adD (adD (adD (adD (adD (adD (adD (adD (adD (adD (adD (adD (adD (adD (adD (adD (adD D 7 0) 6 0) 9 0) 9 1) 9 4) 9 5) 9 6) 9 8) 9 9) 9 10) 9 11) 6 1) 20 0) 20 1) 20 3) 20 4) 20 5) 20 7) 19 0) 6 2) 6 3) 6 7) 29 3) 29 4) 29 6) 6 9) 33 0) 33 1) 33 2) 33 3) 33 4) 33 5) 33 6) 6 10) 41 0) 41 1) 41 2) 41 3) 41 4) 41 5) 41 6) 6 11) 49 0) 49 1) 49 2) 49 3) 49 4) 49 5) 49 6) 6 12) 57 0) 57 1) 57 2) 57 3) 57 4) 57 5) 57 6) 6 13) 65 0) 66 67 40) 6 15) 387 0) 387 1) 387 2) 387 3) 392 0) 392 1) 392 2) 392 3) 392 4) 392 5) 392 6) 387 6) 387 7) 387 8) 387 9) 387 10) 387 12) 6 16) 405 0) 405 2) 405 3) 6 17) 409 0) 410 411 7) 6 18) 6 19) M0 M2 → Q none M2) : Call d mX10_init [vR 6] M Q := by
  obtain ⟨e, rfl⟩ := dd (d := d) (by omega)
  obtain ⟨e, rfl⟩ : ∃ e2, e = e2 + 1 := ⟨e - 1, by omega⟩
  have h0 : (6 : Nat) ≠ 0 := by decide
  show Run (e + 1 + 1) mX10_init 0 [some (vR 6)] [] M Q
  refine r_aload_n dX10_init_0 rfl ?_
  refine r_obj dX10_init_1 kO10_1 h0 (by decide) ?_
  refine r_aload_n dX10_init_4 rfl ?_
  refine g_new (n := 7) (c2 := 8) (j := 0) (n2 := 9) (w2 := ((w + 4) + 240)) (V2 := ((7, 3, (-1 : Int)) :: [])) (D2 := (adD D 7 0)) hB dX10_init_5 kN10_7 dX10_init_8 dX10_init_9 (by rfl) kM10_9 (by decide) rfl (by rfl) (Nat.le_of_ble_eq_true rfl) (by rfl) (by rfl) (fun N P b K => ctor8 (by omega) b K) (by decide) dX10_init_12 kF10_10 rfl (by rfl) (by rfl) (by decide) (by rfl) (fun M1 b1 => ?_)
  refine r_aload_n dX10_init_15 rfl ?_
  refine g_new (n := 9) (c2 := 2) (j := 1) (n2 := 19) (w2 := ((((((((((((w + 4) + 240) + 12) + 4) + 4) + 8) + 8) + 8) + 12) + 12) + 12) + 12)) (V2 := ((7, 3, (-1 : Int)) :: [])) (D2 := (adD (adD (adD (adD (adD (adD (adD (adD (adD (adD (adD D 7 0) 6 0) 9 0) 9 1) 9 4) 9 5) 9 6) 9 8) 9 9) 9 10) 9 11)) b1 dX10_init_16 kN10_16 dX10_init_19 dX10_init_20 (by rfl) kM10_18 (by decide) rfl (by rfl) (Nat.le_of_ble_eq_true rfl) (by rfl) (by rfl) (fun N P b K => ctor2 (by omega) b K) (by decide) dX10_init_23 kF10_19 rfl (by rfl) (by rfl) (by decide) (by rfl) (fun M2 b2 => ?_)
  refine r_aload_n dX10_init_26 rfl ?_
  refine g_new (n := 19) (c2 := 4) (j := 2) (n2 := 27) (w2 := ((((((((((((((((((((w + 4) + 240) + 12) + 4) + 4) + 8) + 8) + 8) + 12) + 12) + 12) + 12) + 1) + 8) + 240) + 240) + 64) + 64) + 64) + 64)) (V2 := ((7, 3, (-1 : Int)) :: [])) (D2 := (adD (adD (adD (adD (adD (adD (adD (adD (adD (adD (adD (adD (adD (adD (adD (adD (adD (adD (adD D 7 0) 6 0) 9 0) 9 1) 9 4) 9 5) 9 6) 9 8) 9 9) 9 10) 9 11) 6 1) 20 0) 20 1) 20 3) 20 4) 20 5) 20 7) 19 0)) b2 dX10_init_27 kN10_23 dX10_init_30 dX10_init_31 (by rfl) kM10_25 (by decide) rfl (by rfl) (Nat.le_of_ble_eq_true rfl) (by rfl) (by rfl) (fun N P b K => ctor4 (by omega) b K) (by decide) dX10_init_34 kF10_26 rfl (by rfl) (by rfl) (by decide) (by rfl) (fun M3 b3 => ?_)
  refine r_aload_n dX10_init_37 rfl ?_
  refine r_iconst dX10_init_38 (by decide) ?_
  refine g_arr (n := 27) (len := 4) (t := 24) (j := 3) (pc1 := 42) b3 (fun k => r_anewarray dX10_init_39 kA10_30 (by decide) k) dX10_init_42 kF10_32 rfl (by rfl) (by rfl) (by rfl) (by decide) (by rfl) (fun M4 b4 => ?_)
  refine r_aload_n dX10_init_45 rfl ?_
  refine r_iconst dX10_init_46 (by decide) ?_
  refine g_int (z := -1) b4 dX10_init_47 kF10_36 rfl (by rfl) (by decide) (by rfl) (by rfl) (by decide) (fun M5 b5 => ?_)
  refine r_aload_n dX10_init_50 rfl ?_
  refine r_iconst dX10_init_51 (by decide) ?_
  refine g_int (z := 4) b5 dX10_init_52 kF10_40 rfl (by rfl) (by decide) (by rfl) (by rfl) (by decide) (fun M6 b6 => ?_)
  refine r_aload_n dX10_init_55 rfl ?_
  refine r_iconst dX10_init_56 (by decide) ?_
  refine g_arr (n := 28) (len := 5) (t := 20) (j := 7) (pc1 := 59) b6 (fun k => r_newarray_int dX10_init_57 (by decide) k) dX10_init_59 kF10_43 rfl (by rfl) (by rfl) (by rfl) (by decide) (by rfl) (fun M7 b7 => ?_)
  refine r_aload_n dX10_init_62 rfl ?_
  refine g_new (n := 29) (c2 := 1) (j := 9) (n2 := 33) (w2 := ((((((((((((((((((((((((((w + 4) + 240) + 12) + 4) + 4) + 8) + 8) + 8) + 12) + 12) + 12) + 12) + 1) + 8) + 240) + 240) + 64) + 64) + 64) + 64) + 4) + 5) + 7) + 8) + 8) + 6)) (V2 := ((6, 6, (4 : Int)) :: ((6, 5, (-1 : Int)) :: ((7, 3, (-1 : Int)) :: [])))) (D2 := (adD (adD (adD (adD (adD (adD (adD (adD (adD (adD (adD (adD (adD (adD (adD (adD (adD (adD (adD (adD (adD (adD (adD (adD (adD D 7 0) 6 0) 9 0) 9 1) 9 4) 9 5) 9 6) 9 8) 9 9) 9 10) 9 11) 6 1) 20 0) 20 1) 20 3) 20 4) 20 5) 20 7) 19 0) 6 2) 6 3) 6 7) 29 3) 29 4) 29 6)) b7 dX10_init_63 kN10_47 dX10_init_66 dX10_init_67 (by rfl) kM10_49 (by decide) rfl (by rfl) (Nat.le_of_ble_eq_true rfl) (by rfl) (by rfl) (fun N P b K => ctor1 (by omega) b K) (by decide) dX10_init_70 kF10_50 rfl (by rfl) (by rfl) (by decide) (by rfl) (fun M8 b8 => ?_)
  refine r_aload_n dX10_init_73 rfl ?_
  refine g_new (n := 33) (c2 := 7) (j := 10) (n2 := 41) (w2 := ((((((((((((((((((((((((((((((((((w + 4) + 240) + 12) + 4) + 4) + 8) + 8) + 8) + 12) + 12) + 12) + 12) + 1) + 8) + 240) + 240) + 64) + 64) + 64) + 64) + 4) + 5) + 7) + 8) + 8) + 6) + 10) + 32) + 32) + 32) + 32) + 32) + 8) + 60)) (V2 := ((6, 6, (4 : Int)) :: ((6, 5, (-1 : Int)) :: ((7, 3, (-1 : Int)) :: [])))) (D2 := (adD (adD (adD (adD (adD (adD (adD (adD (adD (adD (adD (adD (adD (adD (adD (adD (adD (adD (adD (adD (adD (adD (adD (adD (adD (adD (adD (adD (adD (adD (adD (adD (adD D 7 0) 6 0) 9 0) 9 1) 9 4) 9 5) 9 6) 9 8) 9 9) 9 10) 9 11) 6 1) 20 0) 20 1) 20 3) 20 4) 20 5) 20 7) 19 0) 6 2) 6 3) 6 7) 29 3) 29 4) 29 6) 6 9) 33 0) 33 1) 33 2) 33 3) 33 4) 33 5) 33 6)) b8 dX10_init_74 kN10_54 dX10_init_77 dX10_init_78 (by rfl) kM10_56 (by decide) rfl (by rfl) (Nat.le_of_ble_eq_true rfl) (by rfl) (by rfl) (fun N P b K => ctor7 (by omega) b (by decide) K) (by decide) dX10_init_81 kF10_57 rfl (by rfl) (by rfl) (by decide) (by rfl) (fun M9 b9 => ?_)
  refine r_aload_n dX10_init_84 rfl ?_
  refine g_new (n := 41) (c2 := 7) (j := 11) (n2 := 49) (w2 := ((((((((((((((((((((((((((((((((((((((((((w + 4) + 240) + 12) + 4) + 4) + 8) + 8) + 8) + 12) + 12) + 12) + 12) + 1) + 8) + 240) + 240) + 64) + 64) + 64) + 64) + 4) + 5) + 7) + 8) + 8) + 6) + 10) + 32) + 32) + 32) + 32) + 32) + 8) + 60) + 10) + 32) + 32) + 32) + 32) + 32) + 8) + 60)) (V2 := ((6, 6, (4 : Int)) :: ((6, 5, (-1 : Int)) :: ((7, 3, (-1 : Int)) :: [])))) (D2 := (adD (adD (adD (adD (adD (adD (adD (adD (adD (adD (adD (adD (adD (adD (adD (adD (adD (adD (adD (adD (adD (adD (adD (adD (adD (adD (adD (adD (adD (adD (adD (adD (adD (adD (adD (adD (adD (adD (adD (adD (adD D 7 0) 6 0) 9 0) 9 1) 9 4) 9 5) 9 6) 9 8) 9 9) 9 10) 9 11) 6 1) 20 0) 20 1) 20 3) 20 4) 20 5) 20 7) 19 0) 6 2) 6 3) 6 7) 29 3) 29 4) 29 6) 6 9) 33 0) 33 1) 33 2) 33 3) 33 4) 33 5) 33 6) 6 10) 41 0) 41 1) 41 2) 41 3) 41 4) 41 5) 41 6)) b9 dX10_init_85 kN10_54 dX10_init_88 dX10_init_89 (by rfl) kM10_56 (by decide) rfl (by rfl) (Nat.le_of_ble_eq_true rfl) (by rfl) (by rfl) (fun N P b K => ctor7 (by omega) b (by decide) K) (by decide) dX10_init_92 kF10_61 rfl (by rfl) (by rfl) (by decide) (by rfl) (fun M10 b10 => ?_)
  refine r_aload_n dX10_init_95 rfl ?_
  refine g_new (n := 49) (c2 := 7) (j := 12) (n2 := 57) (w2 := ((((((((((((((((((((((((((((((((((((((((((((((((((w + 4) + 240) + 12) + 4) + 4) + 8) + 8) + 8) + 12) + 12) + 12) + 12) + 1) + 8) + 240) + 240) + 64) + 64) + 64) + 64) + 4) + 5) + 7) + 8) + 8) + 6) + 10) + 32) + 32) + 32) + 32) + 32) + 8) + 60) + 10) + 32) + 32) + 32) + 32) + 32) + 8) + 60) + 10) + 32) + 32) + 32) + 32) + 32) + 8) + 60)) (V2 := ((6, 6, (4 : Int)) :: ((6, 5, (-1 : Int)) :: ((7, 3, (-1 : Int)) :: [])))) (D2 := (adD (adD (adD (adD (adD (adD (adD (adD (adD (adD (adD (adD (adD (adD (adD (adD (adD (adD (adD (adD (adD (adD (adD (adD (adD (adD (adD (adD (adD (adD (adD (adD (adD (adD (adD (adD (adD (adD (adD (adD (adD (adD (adD (adD (adD (adD (adD (adD (adD D 7 0) 6 0) 9 0) 9 1) 9 4) 9 5) 9 6) 9 8) 9 9) 9 10) 9 11) 6 1) 20 0) 20 1) 20 3) 20 4) 20 5) 20 7) 19 0) 6 2) 6 3) 6 7) 29 3) 29 4) 29 6) 6 9) 33 0) 33 1) 33 2) 33 3) 33 4) 33 5) 33 6) 6 10) 41 0) 41 1) 41 2) 41 3) 41 4) 41 5) 41 6) 6 11) 49 0) 49 1) 49 2) 49 3) 49 4) 49 5) 49 6)) b10 dX10_init_96 kN10_54 dX10_init_99 dX10_init_100 (by rfl) kM10_56 (by decide) rfl (by rfl) (Nat.le_of_ble_eq_true rfl) (by rfl) (by rfl) (fun N P b K => ctor7 (by omega) b (by decide) K) (by decide) dX10_init_103 kF10_64 rfl (by rfl) (by rfl) (by decide) (by rfl) (fun M11 b11 => ?_)
  refine r_aload_n dX10_init_106 rfl ?_
  refine g_new (n := 57) (c2 := 7) (j := 13) (n2 := 65) (w2 := ((((((((((((((((((((((((((((((((((((((((((((((((((((((((((w + 4) + 240) + 12) + 4) + 4) + 8) + 8) + 8) + 12) + 12) + 12) + 12) + 1) + 8) + 240) + 240) + 64) + 64) + 64) + 64) + 4) + 5) + 7) + 8) + 8) + 6) + 10) + 32) + 32) + 32) + 32) + 32) + 8) + 60) + 10) + 32) + 32) + 32) + 32) + 32) + 8) + 60) + 10) + 32) + 32) + 32) + 32) + 32) + 8) + 60) + 10) + 32) + 32) + 32) + 32) + 32) + 8) + 60)) (V2 := ((6, 6, (4 : Int)) :: ((6, 5, (-1 : Int)) :: ((7, 3, (-1 : Int)) :: [])))) (D2 := (adD (adD (adD (adD (adD (adD (adD (adD (adD (adD (adD (adD (adD (adD (adD (adD (adD (adD (adD (adD (adD (adD (adD (adD (adD (adD (adD (adD (adD (adD (adD (adD (adD (adD (adD (adD (adD (adD (adD (adD (adD (adD (adD (adD (adD (adD (adD (adD (adD (adD (adD (adD (adD (adD (adD (adD (adD D 7 0) 6 0) 9 0) 9 1) 9 4) 9 5) 9 6) 9 8) 9 9) 9 10) 9 11) 6 1) 20 0) 20 1) 20 3) 20 4) 20 5) 20 7) 19 0) 6 2) 6 3) 6 7) 29 3) 29 4) 29 6) 6 9) 33 0) 33 1) 33 2) 33 3) 33 4) 33 5) 33 6) 6 10) 41 0) 41 1) 41 2) 41 3) 41 4) 41 5) 41 6) 6 11) 49 0) 49 1) 49 2) 49 3) 49 4) 49 5) 49 6) 6 12) 57 0) 57 1) 57 2) 57 3) 57 4) 57 5) 57 6)) b11 dX10_init_107 kN10_54 dX10_init_110 dX10_init_111 (by rfl) kM10_56 (by decide) rfl (by rfl) (Nat.le_of_ble_eq_true rfl) (by rfl) (by rfl) (fun N P b K => ctor7 (by omega) b (by decide) K) (by decide) dX10_init_114 kF10_67 rfl (by rfl) (by rfl) (by decide) (by rfl) (fun M12 b12 => ?_)
  refine r_aload_n dX10_init_117 rfl ?_
  refine g_new (n := 65) (c2 := 5) (j := 15) (n2 := 387) (w2 := (lpW ((((((((((((((((((((((((((((((((((((((((((((((((((((((((((((w + 4) + 240) + 12) + 4) + 4) + 8) + 8) + 8) + 12) + 12) + 12) + 12) + 1) + 8) + 240) + 240) + 64) + 64) + 64) + 64) + 4) + 5) + 7) + 8) + 8) + 6) + 10) + 32) + 32) + 32) + 32) + 32) + 8) + 60) + 10) + 32) + 32) + 32) + 32) + 32) + 8) + 60) + 10) + 32) + 32) + 32) + 32) + 32) + 8) + 60) + 10) + 32) + 32) + 32) + 32) + 32) + 8) + 60) + 3) + 40) 40)) (V2 := ((6, 6, (4 : Int)) :: ((6, 5, (-1 : Int)) :: ((7, 3, (-1 : Int)) :: [])))) (D2 := (lpD (adD (adD (adD (adD (adD (adD (adD (adD (adD (adD (adD (adD (adD (adD (adD (adD (adD (adD (adD (adD (adD (adD (adD (adD (adD (adD (adD (adD (adD (adD (adD (adD (adD (adD (adD (adD (adD (adD (adD (adD (adD (adD (adD (adD (adD (adD (adD (adD (adD (adD (adD (adD (adD (adD (adD (adD (adD (adD (adD D 7 0) 6 0) 9 0) 9 1) 9 4) 9 5) 9 6) 9 8) 9 9) 9 10) 9 11) 6 1) 20 0) 20 1) 20 3) 20 4) 20 5) 20 7) 19 0) 6 2) 6 3) 6 7) 29 3) 29 4) 29 6) 6 9) 33 0) 33 1) 33 2) 33 3) 33 4) 33 5) 33 6) 6 10) 41 0) 41 1) 41 2) 41 3) 41 4) 41 5) 41 6) 6 11) 49 0) 49 1) 49 2) 49 3) 49 4) 49 5) 49 6) 6 12) 57 0) 57 1) 57 2) 57 3) 57 4) 57 5) 57 6) 6 13) 65 0) 66 67 40)) b12 dX10_init_118 kN10_70 dX10_init_121 dX10_init_122 (by rfl) kM10_72 (by decide) rfl (by rfl) (Nat.le_of_ble_eq_true rfl) (by rfl) (by rfl) (fun N P b K => ctor5 (by omega) b K) (by decide) dX10_init_125 kF10_73 rfl (by rfl) (by rfl) (by decide) (by rfl) (fun M13 b13 => ?_)
  refine r_aload_n dX10_init_128 rfl ?_
  refine g_new (n := 387) (c2 := 6) (j := 16) (n2 := 405) (w2 := (((((((((((((((((((lpW ((((((((((((((((((((((((((((((((((((((((((((((((((((((((((((w + 4) + 240) + 12) + 4) + 4) + 8) + 8) + 8) + 12) + 12) + 12) + 12) + 1) + 8) + 240) + 240) + 64) + 64) + 64) + 64) + 4) + 5) + 7) + 8) + 8) + 6) + 10) + 32) + 32) + 32) + 32) + 32) + 8) + 60) + 10) + 32) + 32) + 32) + 32) + 32) + 8) + 60) + 10) + 32) + 32) + 32) + 32) + 32) + 8) + 60) + 10) + 32) + 32) + 32) + 32) + 32) + 8) + 60) + 3) + 40) 40) + 13) + 10) + 10) + 10) + 10) + 10) + 32) + 32) + 32) + 32) + 32) + 8) + 60) + 288) + 72) + 1944) + 1512) + 64)) (V2 := ((6, 6, (4 : Int)) :: ((6, 5, (-1 : Int)) :: ((7, 3, (-1 : Int)) :: [])))) (D2 := (adD (adD (adD (adD (adD (adD (adD (adD (adD (adD (adD (adD (adD (adD (adD (adD (adD (adD (lpD (adD (adD (adD (adD (adD (adD (adD (adD (adD (adD (adD (adD (adD (adD (adD (adD (adD (adD (adD (adD (adD (adD (adD (adD (adD (adD (adD (adD (adD (adD (adD (adD (adD (adD (adD (adD (adD (adD (adD (adD (adD (adD (adD (adD (adD (adD (adD (adD (adD (adD (adD (adD (adD (adD (adD (adD (adD (adD (adD D 7 0) 6 0) 9 0) 9 1) 9 4) 9 5) 9 6) 9 8) 9 9) 9 10) 9 11) 6 1) 20 0) 20 1) 20 3) 20 4) 20 5) 20 7) 19 0) 6 2) 6 3) 6 7) 29 3) 29 4) 29 6) 6 9) 33 0) 33 1) 33 2) 33 3) 33 4) 33 5) 33 6) 6 10) 41 0) 41 1) 41 2) 41 3) 41 4) 41 5) 41 6) 6 11) 49 0) 49 1) 49 2) 49 3) 49 4) 49 5) 49 6) 6 12) 57 0) 57 1) 57 2) 57 3) 57 4) 57 5) 57 6) 6 13) 65 0) 66 67 40) 6 15) 387 0) 387 1) 387 2) 387 3) 392 0) 392 1) 392 2) 392 3) 392 4) 392 5) 392 6) 387 6) 387 7) 387 8) 387 9) 387 10) 387 12)) b13 dX10_init_129 kN10_77 dX10_init_132 dX10_init_133 (by rfl) kM10_79 (by decide) rfl (by rfl) (Nat.le_of_ble_eq_true rfl) (by rfl) (by rfl) (fun N P b K => ctor6 (by omega) b K) (by decide) dX10_init_136 kF10_80 rfl (by rfl) (by rfl) (by decide) (by rfl) (fun M14 b14 => ?_)
  refine r_aload_n dX10_init_139 rfl ?_
  refine g_new (n := 405) (c2 := 0) (j := 17) (n2 := 409) (w2 := (((((((((((((((((((((((lpW ((((((((((((((((((((((((((((((((((((((((((((((((((((((((((((w + 4) + 240) + 12) + 4) + 4) + 8) + 8) + 8) + 12) + 12) + 12) + 12) + 1) + 8) + 240) + 240) + 64) + 64) + 64) + 64) + 4) + 5) + 7) + 8) + 8) + 6) + 10) + 32) + 32) + 32) + 32) + 32) + 8) + 60) + 10) + 32) + 32) + 32) + 32) + 32) + 8) + 60) + 10) + 32) + 32) + 32) + 32) + 32) + 8) + 60) + 10) + 32) + 32) + 32) + 32) + 32) + 8) + 60) + 3) + 40) 40) + 13) + 10) + 10) + 10) + 10) + 10) + 32) + 32) + 32) + 32) + 32) + 8) + 60) + 288) + 72) + 1944) + 1512) + 64) + 4) + 8) + 256) + 256)) (V2 := ((6, 6, (4 : Int)) :: ((6, 5, (-1 : Int)) :: ((7, 3, (-1 : Int)) :: [])))) (D2 := (adD (adD (adD (adD (adD (adD (adD (adD (adD (adD (adD (adD (adD (adD (adD (adD (adD (adD (adD (adD (adD (adD (lpD (adD (adD (adD (adD (adD (adD (adD (adD (adD (adD (adD (adD (adD (adD (adD (adD (adD (adD (adD (adD (adD (adD (adD (adD (adD (adD (adD (adD (adD (adD (adD (adD (adD (adD (adD (adD (adD (adD (adD (adD (adD (adD (adD (adD (adD (adD (adD (adD (adD (adD (adD (adD (adD (adD (adD (adD (adD (adD (adD D 7 0) 6 0) 9 0) 9 1) 9 4) 9 5) 9 6) 9 8) 9 9) 9 10) 9 11) 6 1) 20 0) 20 1) 20 3) 20 4) 20 5) 20 7) 19 0) 6 2) 6 3) 6 7) 29 3) 29 4) 29 6) 6 9) 33 0) 33 1) 33 2) 33 3) 33 4) 33 5) 33 6) 6 10) 41 0) 41 1) 41 2) 41 3) 41 4) 41 5) 41 6) 6 11) 49 0) 49 1) 49 2) 49 3) 49 4) 49 5) 49 6) 6 12) 57 0) 57 1) 57 2) 57 3) 57 4) 57 5) 57 6) 6 13) 65 0) 66 67 40) 6 15) 387 0) 387 1) 387 2) 387 3) 392 0) 392 1) 392 2) 392 3) 392 4) 392 5) 392 6) 387 6) 387 7) 387 8) 387 9) 387 10) 387 12) 6 16) 405 0) 405 2) 405 3)) b14 dX10_init_140 kN10_84 dX10_init_143 dX10_init_144 (by rfl) kM10_86 (by decide) rfl (by rfl) (Nat.le_of_ble_eq_true rfl) (by rfl) (by rfl) (fun N P b K => ctor0 (by omega) b K) (by decide) dX10_init_147 kF10_87 rfl (by rfl) (by rfl) (by decide) (by rfl) (fun M15 b15 => ?_)
  refine r_aload_n dX10_init_150 rfl ?_
  refine g_new (n := 409) (c2 := 9) (j := 18) (n2 := 467) (w2 := (lpW (((((((((((((((((((((((((lpW ((((((((((((((((((((((((((((((((((((((((((((((((((((((((((((w + 4) + 240) + 12) + 4) + 4) + 8) + 8) + 8) + 12) + 12) + 12) + 12) + 1) + 8) + 240) + 240) + 64) + 64) + 64) + 64) + 4) + 5) + 7) + 8) + 8) + 6) + 10) + 32) + 32) + 32) + 32) + 32) + 8) + 60) + 10) + 32) + 32) + 32) + 32) + 32) + 8) + 60) + 10) + 32) + 32) + 32) + 32) + 32) + 8) + 60) + 10) + 32) + 32) + 32) + 32) + 32) + 8) + 60) + 3) + 40) 40) + 13) + 10) + 10) + 10) + 10) + 10) + 32) + 32) + 32) + 32) + 32) + 8) + 60) + 288) + 72) + 1944) + 1512) + 64) + 4) + 8) + 256) + 256) + 1) + 7) 7)) (V2 := ((6, 6, (4 : Int)) :: ((6, 5, (-1 : Int)) :: ((7, 3, (-1 : Int)) :: [])))) (D2 := (lpD (adD (adD (adD (adD (adD (adD (adD (adD (adD (adD (adD (adD (adD (adD (adD (adD (adD (adD (adD (adD (adD (adD (adD (adD (lpD (adD (adD (adD (adD (adD (adD (adD (adD (adD (adD (adD (adD (adD (adD (adD (adD (adD (adD (adD (adD (adD (adD (adD (adD (adD (adD (adD (adD (adD (adD (adD (adD (adD (adD (adD (adD (adD (adD (adD (adD (adD (adD (adD (adD (adD (adD (adD (adD (adD (adD (adD (adD (adD (adD (adD (adD (adD (adD (adD D 7 0) 6 0) 9 0) 9 1) 9 4) 9 5) 9 6) 9 8) 9 9) 9 10) 9 11) 6 1) 20 0) 20 1) 20 3) 20 4) 20 5) 20 7) 19 0) 6 2) 6 3) 6 7) 29 3) 29 4) 29 6) 6 9) 33 0) 33 1) 33 2) 33 3) 33 4) 33 5) 33 6) 6 10) 41 0) 41 1) 41 2) 41 3) 41 4) 41 5) 41 6) 6 11) 49 0) 49 1) 49 2) 49 3) 49 4) 49 5) 49 6) 6 12) 57 0) 57 1) 57 2) 57 3) 57 4) 57 5) 57 6) 6 13) 65 0) 66 67 40) 6 15) 387 0) 387 1) 387 2) 387 3) 392 0) 392 1) 392 2) 392 3) 392 4) 392 5) 392 6) 387 6) 387 7) 387 8) 387 9) 387 10) 387 12) 6 16) 405 0) 405 2) 405 3) 6 17) 409 0) 410 411 7)) b15 dX10_init_151 kN10_91 dX10_init_154 dX10_init_155 (by rfl) kM10_93 (by decide) rfl (by rfl) (Nat.le_of_ble_eq_true rfl) (by rfl) (by rfl) (fun N P b K => ctor9 (by omega) b K) (by decide) dX10_init_158 kF10_94 rfl (by rfl) (by rfl) (by decide) (by rfl) (fun M16 b16 => ?_)
  refine r_aload_n dX10_init_161 rfl ?_
  refine r_bipush dX10_init_162 (by decide) ?_
  refine g_arr (n := 467) (len := 18) (t := 20) (j := 19) (pc1 := 166) b16 (fun k => r_newarray_int dX10_init_164 (by decide) k) dX10_init_166 kF10_98 rfl (by rfl) (by rfl) (by rfl) (by decide) (by rfl) (fun M17 b17 => ?_)
  exact r_vret dX10_init_169 rfl (K _ b17)
theorem ctor11 {d w : Nat} {D : Nat → Nat → Bool} {M0 M : jM} {Q : Option jV → jM → Prop} (hd : 1 ≤ d) (hB : BdM (469) w [(6, 6, (4 : Int)), (6, 5, (-1 : Int)), (7, 3, (-1 : Int))] D M0 M) (K : ∀ M2, BdM (499) ((((((((((((((((((((((((((((((w + 240) + 2600) + 2600) + 5) + 5) + 700) + 700) + 700) + 6) + 80) + 4) + 24) + 48) + 4) + 24) + 48) + 8) + 352) + 5) + 14080) + 1539) + 8) + 256) + 10) + 10) + 10) + 10) + 72) + 576) + 352) ((468, 31, (4 : Int)) :: ((468, 30, (-1 : Int)) :: [(6, 6, (4 : Int)), (6, 5, (-1 : Int)), (7, 3, (-1 : Int))])) (adD (adD (adD (adD (adD (adD (adD (adD (adD (adD (adD (adD (adD (adD (adD (adD (adD (adD (adD (adD (adD (adD (adD (adD (adD (adD (adD (adD (adD (adD D 468 1) 468 6) 468 7) 468 8) 468 9) 468 10) 468 11) 468 12) 468 15) 468 16) 468 17) 468 18) 468 19) 468 22) 468 23) 468 24) 468 27) 468 28) 468 29) 468 32) 468 35) 468 36) 468 37) 468 38) 468 39) 468 40) 468 41) 468 43) 468 44) 468 45) M0 M2 → Q none M2) : Call d mX11_init [vR 468] M Q := by
  obtain ⟨e, rfl⟩ := dd (d := d) (by omega)
  have h0 : (468 : Nat) ≠ 0 := by decide
  show Run (e + 1) mX11_init 0 [some (vR 468)] [] M Q
  refine r_aload_n dX11_init_0 rfl ?_
  refine r_obj dX11_init_1 kO11_3 h0 (by decide) ?_
  refine r_aload_n dX11_init_4 rfl ?_
  refine r_sipush dX11_init_5 (by decide) ?_
  refine g_arr (n := 469) (len := 240) (t := 20) (j := 1) (pc1 := 10) hB (fun k => r_newarray_int dX11_init_8 (by decide) k) dX11_init_10 kF11_9 rfl (by rfl) kk469 rr468_1 (by decide) kk468 (fun M1 b1 => ?_)
  refine r_aload_n dX11_init_13 rfl ?_
  refine r_sipush dX11_init_14 (by decide) ?_
  refine g_arr (n := 470) (len := 2600) (t := 20) (j := 6) (pc1 := 19) b1 (fun k => r_newarray_int dX11_init_17 (by decide) k) dX11_init_19 kF11_13 rfl (by rfl) kk470 rr468_6 (by decide) kk468 (fun M2 b2 => ?_)
  refine r_aload_n dX11_init_22 rfl ?_
  refine r_sipush dX11_init_23 (by decide) ?_
  refine g_arr (n := 471) (len := 2600) (t := 20) (j := 7) (pc1 := 28) b2 (fun k => r_newarray_int dX11_init_26 (by decide) k) dX11_init_28 kF11_16 rfl (by rfl) kk471 rr468_7 (by decide) kk468 (fun M3 b3 => ?_)
  refine r_aload_n dX11_init_31 rfl ?_
  refine r_iconst dX11_init_32 (by decide) ?_
  refine g_arr (n := 472) (len := 5) (t := 20) (j := 8) (pc1 := 35) b3 (fun k => r_newarray_int dX11_init_33 (by decide) k) dX11_init_35 kF11_19 rfl (by rfl) kk472 rr468_8 (by decide) kk468 (fun M4 b4 => ?_)
  refine r_aload_n dX11_init_38 rfl ?_
  refine r_iconst dX11_init_39 (by decide) ?_
  refine g_arr (n := 473) (len := 5) (t := 20) (j := 9) (pc1 := 42) b4 (fun k => r_newarray_int dX11_init_40 (by decide) k) dX11_init_42 kF11_22 rfl (by rfl) kk473 rr468_9 (by decide) kk468 (fun M5 b5 => ?_)
  refine r_aload_n dX11_init_45 rfl ?_
  refine r_sipush dX11_init_46 (by decide) ?_
  refine g_arr (n := 474) (len := 700) (t := 20) (j := 10) (pc1 := 51) b5 (fun k => r_newarray_int dX11_init_49 (by decide) k) dX11_init_51 kF11_25 rfl (by rfl) kk474 rr468_10 (by decide) kk468 (fun M6 b6 => ?_)
  refine r_aload_n dX11_init_54 rfl ?_
  refine r_sipush dX11_init_55 (by decide) ?_
  refine g_arr (n := 475) (len := 700) (t := 20) (j := 11) (pc1 := 60) b6 (fun k => r_newarray_int dX11_init_58 (by decide) k) dX11_init_60 kF11_28 rfl (by rfl) kk475 rr468_11 (by decide) kk468 (fun M7 b7 => ?_)
  refine r_aload_n dX11_init_63 rfl ?_
  refine r_sipush dX11_init_64 (by decide) ?_
  refine g_arr (n := 476) (len := 700) (t := 20) (j := 12) (pc1 := 69) b7 (fun k => r_newarray_int dX11_init_67 (by decide) k) dX11_init_69 kF11_31 rfl (by rfl) kk476 rr468_12 (by decide) kk468 (fun M8 b8 => ?_)
  refine r_aload_n dX11_init_72 rfl ?_
  refine r_bipush dX11_init_73 (by decide) ?_
  refine g_arr (n := 477) (len := 6) (t := 20) (j := 15) (pc1 := 77) b8 (fun k => r_newarray_int dX11_init_75 (by decide) k) dX11_init_77 kF11_34 rfl (by rfl) kk477 rr468_15 (by decide) kk468 (fun M9 b9 => ?_)
  refine r_aload_n dX11_init_80 rfl ?_
  refine r_bipush dX11_init_81 (by decide) ?_
  refine g_arr (n := 478) (len := 80) (t := 20) (j := 16) (pc1 := 85) b9 (fun k => r_newarray_int dX11_init_83 (by decide) k) dX11_init_85 kF11_37 rfl (by rfl) kk478 rr468_16 (by decide) kk468 (fun M10 b10 => ?_)
  refine r_aload_n dX11_init_88 rfl ?_
  refine r_iconst dX11_init_89 (by decide) ?_
  refine g_arr (n := 479) (len := 4) (t := 20) (j := 17) (pc1 := 92) b10 (fun k => r_newarray_int dX11_init_90 (by decide) k) dX11_init_92 kF11_40 rfl (by rfl) kk479 rr468_17 (by decide) kk468 (fun M11 b11 => ?_)
  refine r_aload_n dX11_init_95 rfl ?_
  refine r_bipush dX11_init_96 (by decide) ?_
  refine g_arr (n := 480) (len := 24) (t := 20) (j := 18) (pc1 := 100) b11 (fun k => r_newarray_int dX11_init_98 (by decide) k) dX11_init_100 kF11_43 rfl (by rfl) kk480 rr468_18 (by decide) kk468 (fun M12 b12 => ?_)
  refine r_aload_n dX11_init_103 rfl ?_
  refine r_bipush dX11_init_104 (by decide) ?_
  refine g_arr (n := 481) (len := 48) (t := 20) (j := 19) (pc1 := 108) b12 (fun k => r_newarray_int dX11_init_106 (by decide) k) dX11_init_108 kF11_46 rfl (by rfl) kk481 rr468_19 (by decide) kk468 (fun M13 b13 => ?_)
  refine r_aload_n dX11_init_111 rfl ?_
  refine r_iconst dX11_init_112 (by decide) ?_
  refine g_arr (n := 482) (len := 4) (t := 20) (j := 22) (pc1 := 115) b13 (fun k => r_newarray_int dX11_init_113 (by decide) k) dX11_init_115 kF11_49 rfl (by rfl) kk482 rr468_22 (by decide) kk468 (fun M14 b14 => ?_)
  refine r_aload_n dX11_init_118 rfl ?_
  refine r_bipush dX11_init_119 (by decide) ?_
  refine g_arr (n := 483) (len := 24) (t := 20) (j := 23) (pc1 := 123) b14 (fun k => r_newarray_int dX11_init_121 (by decide) k) dX11_init_123 kF11_52 rfl (by rfl) kk483 rr468_23 (by decide) kk468 (fun M15 b15 => ?_)
  refine r_aload_n dX11_init_126 rfl ?_
  refine r_bipush dX11_init_127 (by decide) ?_
  refine g_arr (n := 484) (len := 48) (t := 20) (j := 24) (pc1 := 131) b15 (fun k => r_newarray_int dX11_init_129 (by decide) k) dX11_init_131 kF11_55 rfl (by rfl) kk484 rr468_24 (by decide) kk468 (fun M16 b16 => ?_)
  refine r_aload_n dX11_init_134 rfl ?_
  refine r_bipush dX11_init_135 (by decide) ?_
  refine g_arr (n := 485) (len := 8) (t := 20) (j := 27) (pc1 := 139) b16 (fun k => r_newarray_int dX11_init_137 (by decide) k) dX11_init_139 kF11_58 rfl (by rfl) kk485 rr468_27 (by decide) kk468 (fun M17 b17 => ?_)
  refine r_aload_n dX11_init_142 rfl ?_
  refine r_sipush dX11_init_143 (by decide) ?_
  refine g_arr (n := 486) (len := 352) (t := 20) (j := 28) (pc1 := 148) b17 (fun k => r_newarray_int dX11_init_146 (by decide) k) dX11_init_148 kF11_61 rfl (by rfl) kk486 rr468_28 (by decide) kk468 (fun M18 b18 => ?_)
  refine r_aload_n dX11_init_151 rfl ?_
  refine r_iconst dX11_init_152 (by decide) ?_
  refine g_arr (n := 487) (len := 5) (t := 20) (j := 29) (pc1 := 155) b18 (fun k => r_newarray_int dX11_init_153 (by decide) k) dX11_init_155 kF11_64 rfl (by rfl) kk487 rr468_29 (by decide) kk468 (fun M19 b19 => ?_)
  refine r_aload_n dX11_init_158 rfl ?_
  refine r_iconst dX11_init_159 (by decide) ?_
  refine g_int (z := -1) b19 dX11_init_160 kF11_67 rfl (by rfl) (by decide) (by rfl) (by rfl) (by decide) (fun M20 b20 => ?_)
  refine r_aload_n dX11_init_163 rfl ?_
  refine r_iconst dX11_init_164 (by decide) ?_
  refine g_int (z := 4) b20 dX11_init_165 kF11_71 rfl (by rfl) (by decide) (by rfl) (by rfl) (by decide) (fun M21 b21 => ?_)
  refine r_aload_n dX11_init_168 rfl ?_
  refine r_sipush dX11_init_169 (by decide) ?_
  refine g_arr (n := 488) (len := 14080) (t := 20) (j := 32) (pc1 := 174) b21 (fun k => r_newarray_int dX11_init_172 (by decide) k) dX11_init_174 kF11_74 rfl (by rfl) kk488 rr468_32 (by decide) kk468 (fun M22 b22 => ?_)
  refine r_aload_n dX11_init_177 rfl ?_
  refine r_sipush dX11_init_178 (by decide) ?_
  refine g_arr (n := 489) (len := 1539) (t := 20) (j := 35) (pc1 := 183) b22 (fun k => r_newarray_int dX11_init_181 (by decide) k) dX11_init_183 kF11_77 rfl (by rfl) kk489 rr468_35 (by decide) kk468 (fun M23 b23 => ?_)
  refine r_aload_n dX11_init_186 rfl ?_
  refine r_bipush dX11_init_187 (by decide) ?_
  refine g_arr (n := 490) (len := 8) (t := 21) (j := 36) (pc1 := 191) b23 (fun k => r_newarray_long dX11_init_189 (by decide) k) dX11_init_191 kF11_80 rfl (by rfl) kk490 rr468_36 (by decide) kk468 (fun M24 b24 => ?_)
  refine r_aload_n dX11_init_194 rfl ?_
  refine r_sipush dX11_init_195 (by decide) ?_
  refine g_arr (n := 491) (len := 256) (t := 20) (j := 37) (pc1 := 200) b24 (fun k => r_newarray_int dX11_init_198 (by decide) k) dX11_init_200 kF11_84 rfl (by rfl) kk491 rr468_37 (by decide) kk468 (fun M25 b25 => ?_)
  refine r_aload_n dX11_init_203 rfl ?_
  refine r_bipush dX11_init_204 (by decide) ?_
  refine g_arr (n := 492) (len := 10) (t := 20) (j := 38) (pc1 := 208) b25 (fun k => r_newarray_int dX11_init_206 (by decide) k) dX11_init_208 kF11_87 rfl (by rfl) kk492 rr468_38 (by decide) kk468 (fun M26 b26 => ?_)
  refine r_aload_n dX11_init_211 rfl ?_
  refine r_bipush dX11_init_212 (by decide) ?_
  refine g_arr (n := 493) (len := 10) (t := 20) (j := 39) (pc1 := 216) b26 (fun k => r_newarray_int dX11_init_214 (by decide) k) dX11_init_216 kF11_90 rfl (by rfl) kk493 rr468_39 (by decide) kk468 (fun M27 b27 => ?_)
  refine r_aload_n dX11_init_219 rfl ?_
  refine r_bipush dX11_init_220 (by decide) ?_
  refine g_arr (n := 494) (len := 10) (t := 20) (j := 40) (pc1 := 224) b27 (fun k => r_newarray_int dX11_init_222 (by decide) k) dX11_init_224 kF11_93 rfl (by rfl) kk494 rr468_40 (by decide) kk468 (fun M28 b28 => ?_)
  refine r_aload_n dX11_init_227 rfl ?_
  refine r_bipush dX11_init_228 (by decide) ?_
  refine g_arr (n := 495) (len := 10) (t := 22) (j := 41) (pc1 := 232) b28 (fun k => r_newarray_boolean dX11_init_230 (by decide) k) dX11_init_232 kF11_96 rfl (by rfl) kk495 rr468_41 (by decide) kk468 (fun M29 b29 => ?_)
  refine r_aload_n dX11_init_235 rfl ?_
  refine r_bipush dX11_init_236 (by decide) ?_
  refine g_arr (n := 496) (len := 72) (t := 21) (j := 43) (pc1 := 240) b29 (fun k => r_newarray_long dX11_init_238 (by decide) k) dX11_init_240 kF11_100 rfl (by rfl) kk496 rr468_43 (by decide) kk468 (fun M30 b30 => ?_)
  refine r_aload_n dX11_init_243 rfl ?_
  refine r_sipush dX11_init_244 (by decide) ?_
  refine g_arr (n := 497) (len := 576) (t := 20) (j := 44) (pc1 := 249) b30 (fun k => r_newarray_int dX11_init_247 (by decide) k) dX11_init_249 kF11_103 rfl (by rfl) kk497 rr468_44 (by decide) kk468 (fun M31 b31 => ?_)
  refine r_aload_n dX11_init_252 rfl ?_
  refine r_sipush dX11_init_253 (by decide) ?_
  refine g_arr (n := 498) (len := 352) (t := 20) (j := 45) (pc1 := 258) b31 (fun k => r_newarray_int dX11_init_256 (by decide) k) dX11_init_258 kF11_106 rfl (by rfl) kk498 rr468_45 (by decide) kk468 (fun M32 b32 => ?_)
  exact r_vret dX11_init_261 rfl (K _ b32)
