/-! VC lemmas of the class's readers -/
theorem vk_isDigit {e : Nat} {M : jM} {Q : Option jV → jM → Prop} {c : Int} (he : 1 ≤ e) (hS : Shp M)
  (h : Q (some (vI (if c < (48 : Int) then (0 : Int) else (if (57 : Int) < c then (0 : Int) else (1 : Int))))) M) :
  Call (e + 1) mX8_isDigit [vI c] M Q := by
  show Run (e + 1) mX8_isDigit 0 [some (vI c)] [] M Q
  refine r_iload_n dX8_isDigit_0 rfl ?_
  refine r_bipush dX8_isDigit_1 (by decide) ?_
  have K1 : Run (e + 1) mX8_isDigit 17 [some (vI c)] [vI (if c < (48 : Int) then (0 : Int) else (if (57 : Int) < c then (0 : Int) else (1 : Int)))] M Q := by
    exact r_zret dX8_isDigit_17 rfl (by (repeat' split) <;> first | exact Or.inl rfl | exact Or.inr rfl) h
  refine r_icmp_lt dX8_isDigit_3 rfl (fun q2 => ?_) (fun q2 => ?_)
  · rw [if_pos q2] at K1
    refine r_iconst dX8_isDigit_16 (by decide) ?_
    exact K1
  · rw [if_neg q2] at K1
    refine r_iload_n dX8_isDigit_6 rfl ?_
    refine r_bipush dX8_isDigit_7 (by decide) ?_
    refine r_icmp_gt dX8_isDigit_9 rfl (fun q4 => ?_) (fun q4 => ?_)
    · rw [if_pos q4] at K1
      refine r_iconst dX8_isDigit_16 (by decide) ?_
      exact K1
    · rw [if_neg q4] at K1
      refine r_iconst dX8_isDigit_12 (by decide) ?_
      refine r_goto (tgt := 17) dX8_isDigit_13 rfl ?_
      exact K1
theorem vk_isCmp {e : Nat} {M : jM} {Q : Option jV → jM → Prop} {c : Int} (he : 1 ≤ e) (hS : Shp M)
  (h : Q (some (vI (if c = (61 : Int) then (1 : Int) else (if c = (60 : Int) then (1 : Int) else (if c ≠ (62 : Int) then (0 : Int) else (1 : Int)))))) M) :
  Call (e + 1) mX4_isComparison [vI c] M Q := by
  show Run (e + 1) mX4_isComparison 0 [some (vI c)] [] M Q
  refine r_iload_n dX4_isComparison_0 rfl ?_
  refine r_bipush dX4_isComparison_1 (by decide) ?_
  have K1 : Run (e + 1) mX4_isComparison 23 [some (vI c)] [vI (if c = (61 : Int) then (1 : Int) else (if c = (60 : Int) then (1 : Int) else (if c ≠ (62 : Int) then (0 : Int) else (1 : Int))))] M Q := by
    exact r_zret dX4_isComparison_23 rfl (by (repeat' split) <;> first | exact Or.inl rfl | exact Or.inr rfl) h
  refine r_icmp_eq dX4_isComparison_3 rfl (fun q2 => ?_) (fun q2 => ?_)
  · rw [if_pos q2] at K1
    refine r_iconst dX4_isComparison_18 (by decide) ?_
    refine r_goto (tgt := 23) dX4_isComparison_19 rfl ?_
    exact K1
  · rw [if_neg q2] at K1
    refine r_iload_n dX4_isComparison_6 rfl ?_
    refine r_bipush dX4_isComparison_7 (by decide) ?_
    refine r_icmp_eq dX4_isComparison_9 rfl (fun q4 => ?_) (fun q4 => ?_)
    · rw [if_pos q4] at K1
      refine r_iconst dX4_isComparison_18 (by decide) ?_
      refine r_goto (tgt := 23) dX4_isComparison_19 rfl ?_
      exact K1
    · rw [if_neg q4] at K1
      refine r_iload_n dX4_isComparison_12 rfl ?_
      refine r_bipush dX4_isComparison_13 (by decide) ?_
      refine r_icmp_ne dX4_isComparison_15 rfl (fun q6 => ?_) (fun q6 => ?_)
      · rw [if_pos q6] at K1
        refine r_iconst dX4_isComparison_22 (by decide) ?_
        exact K1
      · rw [if_neg q6] at K1
        refine r_iconst dX4_isComparison_18 (by decide) ?_
        refine r_goto (tgt := 23) dX4_isComparison_19 rfl ?_
        exact K1
theorem vk_letter {e : Nat} {M : jM} {Q : Option jV → jM → Prop} {c : Int} (he : 1 ≤ e) (hS : Shp M)
  (h : (c = 97 → (Q (some (vI (2 : Int))) M)) ∧ (c = 100 → (Q (some (vI (3 : Int))) M)) ∧ (c = 104 → (Q (some (vI (5 : Int))) M)) ∧ (c = 107 → (Q (some (vI (1 : Int))) M)) ∧ (c = 115 → (Q (some (vI (0 : Int))) M)) ∧ (c = 119 → (Q (some (vI (4 : Int))) M)) ∧ ((c ≠ 97 ∧ c ≠ 100 ∧ c ≠ 104 ∧ c ≠ 107 ∧ c ≠ 115 ∧ c ≠ 119) → (Q (some (vI (-1 : Int))) M))) :
  Call (e + 1) mX4_letterOf [vI c] M Q := by
  show Run (e + 1) mX4_letterOf 0 [some (vI c)] [] M Q
  refine r_iload_n dX4_letterOf_0 rfl ?_
  by_cases c1_0 : c = 97
  · refine r_look_eq (tgt := 64) (o := 63) dX4_letterOf_1 c1_0 rfl (by decide) rfl ?_
    refine r_iconst dX4_letterOf_64 (by decide) ?_
    exact r_iret dX4_letterOf_65 rfl (h.1 c1_0)
  by_cases c1_1 : c = 100
  · refine r_look_eq (tgt := 66) (o := 65) dX4_letterOf_1 c1_1 rfl (by decide) rfl ?_
    refine r_iconst dX4_letterOf_66 (by decide) ?_
    exact r_iret dX4_letterOf_67 rfl (h.2.1 c1_1)
  by_cases c1_2 : c = 104
  · refine r_look_eq (tgt := 70) (o := 69) dX4_letterOf_1 c1_2 rfl (by decide) rfl ?_
    refine r_iconst dX4_letterOf_70 (by decide) ?_
    exact r_iret dX4_letterOf_71 rfl (h.2.2.1 c1_2)
  by_cases c1_3 : c = 107
  · refine r_look_eq (tgt := 62) (o := 61) dX4_letterOf_1 c1_3 rfl (by decide) rfl ?_
    refine r_iconst dX4_letterOf_62 (by decide) ?_
    exact r_iret dX4_letterOf_63 rfl (h.2.2.2.1 c1_3)
  by_cases c1_4 : c = 115
  · refine r_look_eq (tgt := 60) (o := 59) dX4_letterOf_1 c1_4 rfl (by decide) rfl ?_
    refine r_iconst dX4_letterOf_60 (by decide) ?_
    exact r_iret dX4_letterOf_61 rfl (h.2.2.2.2.1 c1_4)
  by_cases c1_5 : c = 119
  · refine r_look_eq (tgt := 68) (o := 67) dX4_letterOf_1 c1_5 rfl (by decide) rfl ?_
    refine r_iconst dX4_letterOf_68 (by decide) ?_
    exact r_iret dX4_letterOf_69 rfl (h.2.2.2.2.2.1 c1_5)
  refine r_look (tgt := 72) (o := 71) dX4_letterOf_1 rfl (by simp [Op.lookupswitch.offset, Ne.symm c1_0, Ne.symm c1_1, Ne.symm c1_2, Ne.symm c1_3, Ne.symm c1_4, Ne.symm c1_5]) rfl ?_
  refine r_iconst dX4_letterOf_72 (by decide) ?_
  exact r_iret dX4_letterOf_73 rfl (h.2.2.2.2.2.2 ⟨c1_0, c1_1, c1_2, c1_3, c1_4, c1_5⟩)
theorem vk_failAt {e : Nat} {M : jM} {Q : Option jV → jM → Prop} {w : Int} (he : 1 ≤ e) (hS : Shp M)
  (h : ∀ N1 : jM, N1 = (si M 7 3 w) → Shp N1 → (Q (some (vI (0 : Int))) N1)) :
  Call (e + 1) mX8_failAt [vR 7, vI w] M Q := by
  show Run (e + 1) mX8_failAt 0 [some (vR 7), some (vI w)] [] M Q
  refine r_aload_n dX8_failAt_0 rfl ?_
  refine r_iload_n dX8_failAt_1 rfl ?_
  refine r_put0 dX8_failAt_2 kF8_15 (sh_o hS kk7 (by decide)) (Or.inl rfl) ?_
  have K4 : ∀ N1 : jM, N1 = (si M 7 3 w) → Run (e + 1) mX8_failAt 5 [some (vR 7), some (vI w)] [] N1 Q := by
    intro N1 hN3
    have sN2 : Shp N1 := by rw [hN3]; exact hS
    refine r_iconst dX8_failAt_5 (by decide) ?_
    exact r_zret dX8_failAt_6 rfl (by decide) (h N1 hN3 sN2)
  exact K4 _ rfl
theorem vk_fail {e : Nat} {M : jM} {Q : Option jV → jM → Prop}  (he : 2 ≤ e) (hS : Shp M)
  (h : Call e mX8_failAt [vR 7, vI (iv M 7 2)] M (fun r4 M2 => ∃ z1 : Int, r4 = some (vI z1) ∧ Shp M2 ∧ ((z1 = 0 ∨ z1 = 1) ∧ Q (some (vI z1)) M2))) :
  Call (e + 1) mX8_fail [vR 7] M Q := by
  show Run (e + 1) mX8_fail 0 [some (vR 7)] [] M Q
  refine r_aload_n dX8_fail_0 rfl ?_
  refine r_aload_n dX8_fail_1 rfl ?_
  refine r_get0 dX8_fail_2 kF8_26 (sh_o hS kk7 (by decide)) ?_
  refine r_invV_i dX8_fail_5 kM8_40 (by decide) (Nat.le_of_ble_eq_true rfl) rfl rfl (Nat.le_of_ble_eq_true rfl) (Nat.le_of_ble_eq_true rfl) (sh_o hS kk7 (by decide)) (Call.mono h (Nat.le_refl _) ?_)
  rintro _ M2 ⟨z1, rfl, s5, h3⟩
  refine ⟨_, rfl, ?_⟩
  exact r_zret dX8_fail_8 rfl h3.1 h3.2
theorem vk_step {e : Nat} {M : jM} {Q : Option jV → jM → Prop}  (he : 1 ≤ e) (hS : Shp M)
  (h : (((iv M 7 1) ≤ (iv M 7 2)) → (Q none M)) ∧ (¬ ((iv M 7 1) ≤ (iv M 7 2)) → (∀ N2 : jM, N2 = (si M 7 2 (w32 ((iv M 7 2) + (1 : Int)))) → Shp N2 → (Q none N2)))) :
  Call (e + 1) mX8_step [vR 7] M Q := by
  show Run (e + 1) mX8_step 0 [some (vR 7)] [] M Q
  refine r_aload_n dX8_step_0 rfl ?_
  refine r_get0 dX8_step_1 kF8_26 (sh_o hS kk7 (by decide)) ?_
  refine r_aload_n dX8_step_4 rfl ?_
  refine r_get0 dX8_step_5 kF8_19 (sh_o hS kk7 (by decide)) ?_
  refine r_icmp_ge dX8_step_8 rfl (fun c1 => ?_) (fun c1 => ?_)
  · exact r_vret dX8_step_21 rfl (h.1 c1)
  · refine r_aload_n dX8_step_11 rfl ?_
    refine r_dupR dX8_step_12 ?_
    refine r_get0 dX8_step_13 kF8_26 (sh_o hS kk7 (by decide)) ?_
    refine r_iconst dX8_step_16 (by decide) ?_
    refine r_iadd dX8_step_17 ?_
    refine r_put0 dX8_step_18 kF8_26 (sh_o hS kk7 (by decide)) (Or.inl rfl) ?_
    have K5 : ∀ N2 : jM, N2 = (si M 7 2 (w32 ((iv M 7 2) + (1 : Int)))) → Run (e + 1) mX8_step 21 [some (vR 7)] [] N2 Q := by
      intro N2 hN4
      have sN3 : Shp N2 := by rw [hN4]; exact hS
      exact r_vret dX8_step_21 rfl ((h.2 c1) N2 hN4 sN3)
    exact K5 _ rfl
theorem vk_rewind {e : Nat} {M : jM} {Q : Option jV → jM → Prop}  (he : 1 ≤ e) (hS : Shp M)
  (h : ∀ N1 : jM, N1 = (si M 7 2 (0 : Int)) → Shp N1 → (∀ N3 : jM, N3 = (si N1 7 3 (-1 : Int)) → Shp N3 → (Q none N3))) :
  Call (e + 1) mX8_rewind [vR 7] M Q := by
  show Run (e + 1) mX8_rewind 0 [some (vR 7)] [] M Q
  refine r_aload_n dX8_rewind_0 rfl ?_
  refine r_iconst dX8_rewind_1 (by decide) ?_
  refine r_put0 dX8_rewind_2 kF8_26 (sh_o hS kk7 (by decide)) (Or.inl rfl) ?_
  have K6 : ∀ N1 : jM, N1 = (si M 7 2 (0 : Int)) → Run (e + 1) mX8_rewind 5 [some (vR 7)] [] N1 Q := by
    intro N1 hN5
    have sN2 : Shp N1 := by rw [hN5]; exact hS
    refine r_aload_n dX8_rewind_5 rfl ?_
    refine r_iconst dX8_rewind_6 (by decide) ?_
    refine r_put0 dX8_rewind_7 kF8_15 (sh_o sN2 kk7 (by decide)) (Or.inl rfl) ?_
    have K8 : ∀ N3 : jM, N3 = (si N1 7 3 (-1 : Int)) → Run (e + 1) mX8_rewind 10 [some (vR 7)] [] N3 Q := by
      intro N3 hN7
      have sN4 : Shp N3 := by rw [hN7]; exact sN2
      exact r_vret dX8_rewind_10 rfl ((h N1 hN5 sN2) N3 hN7 sN4)
    exact K8 _ rfl
  exact K6 _ rfl
theorem vk_lclear {e : Nat} {M : jM} {Q : Option jV → jM → Prop}  (he : 1 ≤ e) (hS : Shp M)
  (h : ∀ N1 : jM, N1 = (si M 20 2 (0 : Int)) → Shp N1 → (∀ N3 : jM, N3 = (si N1 20 6 (0 : Int)) → Shp N3 → (Q none N3))) :
  Call (e + 1) mX3_clear [vR 20] M Q := by
  show Run (e + 1) mX3_clear 0 [some (vR 20)] [] M Q
  refine r_aload_n dX3_clear_0 rfl ?_
  refine r_iconst dX3_clear_1 (by decide) ?_
  refine r_put0 dX3_clear_2 kF3_30 (sh_o hS kk20 (by decide)) (Or.inl rfl) ?_
  have K6 : ∀ N1 : jM, N1 = (si M 20 2 (0 : Int)) → Run (e + 1) mX3_clear 5 [some (vR 20)] [] N1 Q := by
    intro N1 hN5
    have sN2 : Shp N1 := by rw [hN5]; exact hS
    refine r_aload_n dX3_clear_5 rfl ?_
    refine r_iconst dX3_clear_6 (by decide) ?_
    refine r_put0 dX3_clear_7 kF3_34 (sh_o sN2 kk20 (by decide)) (Or.inl rfl) ?_
    have K8 : ∀ N3 : jM, N3 = (si N1 20 6 (0 : Int)) → Run (e + 1) mX3_clear 10 [some (vR 20)] [] N3 Q := by
      intro N3 hN7
      have sN4 : Shp N3 := by rw [hN7]; exact sN2
      exact r_vret dX3_clear_10 rfl ((h N1 hN5 sN2) N3 hN7 sN4)
    exact K8 _ rfl
  exact K6 _ rfl
theorem vk_lbeginClause {e : Nat} {M : jM} {Q : Option jV → jM → Prop}  (he : 1 ≤ e) (hS : Shp M)
  (h : ∀ N1 : jM, N1 = (ptv M 64 23 (iv M 20 6) (iv M 20 2)) → Shp N1 → (∀ N3 : jM, N3 = (ptv N1 64 24 (iv N1 20 6) (iv N1 20 2)) → Shp N3 → (Q none N3))) :
  Call (e + 1) mX3_beginClause [vR 20] M Q := by
  show Run (e + 1) mX3_beginClause 0 [some (vR 20)] [] M Q
  refine r_aload_n dX3_beginClause_0 rfl ?_
  refine r_getS (v := 23) dX3_beginClause_1 kF3_18 (sh_o hS kk20 (by decide)) (sh_f hS rr20_3 (by decide)) ?_
  refine r_aload_n dX3_beginClause_4 rfl ?_
  refine r_get0 dX3_beginClause_5 kF3_34 (sh_o hS kk20 (by decide)) ?_
  refine r_aload_n dX3_beginClause_8 rfl ?_
  refine r_get0 dX3_beginClause_9 kF3_30 (sh_o hS kk20 (by decide)) ?_
  refine r_invS_v dX3_beginClause_12 (by decide) kXn3_37 kM3_37 (by decide) (Nat.le_of_ble_eq_true rfl) rfl rfl (Nat.le_of_ble_eq_true rfl) (Nat.le_of_ble_eq_true rfl) (c_put (by omega) (sh_r hS kk23 (by decide)) (by decide) ⟨rfl, ?_⟩)
  have K6 : ∀ N1 : jM, N1 = (ptv M 64 23 (iv M 20 6) (iv M 20 2)) → Run (e + 1) mX3_beginClause 15 [some (vR 20)] [] N1 Q := by
    intro N1 hN5
    have sN2 : Shp N1 := by rw [hN5]; exact hS
    refine r_aload_n dX3_beginClause_15 rfl ?_
    refine r_getS (v := 24) dX3_beginClause_16 kF3_21 (sh_o sN2 kk20 (by decide)) (sh_f sN2 rr20_4 (by decide)) ?_
    refine r_aload_n dX3_beginClause_19 rfl ?_
    refine r_get0 dX3_beginClause_20 kF3_34 (sh_o sN2 kk20 (by decide)) ?_
    refine r_aload_n dX3_beginClause_23 rfl ?_
    refine r_get0 dX3_beginClause_24 kF3_30 (sh_o sN2 kk20 (by decide)) ?_
    refine r_invS_v dX3_beginClause_27 (by decide) kXn3_37 kM3_37 (by decide) (Nat.le_of_ble_eq_true rfl) rfl rfl (Nat.le_of_ble_eq_true rfl) (Nat.le_of_ble_eq_true rfl) (c_put (by omega) (sh_r sN2 kk24 (by decide)) (by decide) ⟨rfl, ?_⟩)
    have K8 : ∀ N3 : jM, N3 = (ptv N1 64 24 (iv N1 20 6) (iv N1 20 2)) → Run (e + 1) mX3_beginClause 30 [some (vR 20)] [] N3 Q := by
      intro N3 hN7
      have sN4 : Shp N3 := by rw [hN7]; exact sN2
      exact r_vret dX3_beginClause_30 rfl ((h N1 hN5 sN2) N3 hN7 sN4)
    exact K8 _ rfl
  exact K6 _ rfl
theorem vk_lbeginSum {e : Nat} {M : jM} {Q : Option jV → jM → Prop}  (he : 1 ≤ e) (hS : Shp M)
  (h : ∀ N1 : jM, N1 = (ptv M 64 24 (iv M 20 6) (iv M 20 2)) → Shp N1 → (Q none N1)) :
  Call (e + 1) mX3_beginSum [vR 20] M Q := by
  show Run (e + 1) mX3_beginSum 0 [some (vR 20)] [] M Q
  refine r_aload_n dX3_beginSum_0 rfl ?_
  refine r_getS (v := 24) dX3_beginSum_1 kF3_21 (sh_o hS kk20 (by decide)) (sh_f hS rr20_4 (by decide)) ?_
  refine r_aload_n dX3_beginSum_4 rfl ?_
  refine r_get0 dX3_beginSum_5 kF3_34 (sh_o hS kk20 (by decide)) ?_
  refine r_aload_n dX3_beginSum_8 rfl ?_
  refine r_get0 dX3_beginSum_9 kF3_30 (sh_o hS kk20 (by decide)) ?_
  refine r_invS_v dX3_beginSum_12 (by decide) kXn3_37 kM3_37 (by decide) (Nat.le_of_ble_eq_true rfl) rfl rfl (Nat.le_of_ble_eq_true rfl) (Nat.le_of_ble_eq_true rfl) (c_put (by omega) (sh_r hS kk24 (by decide)) (by decide) ⟨rfl, ?_⟩)
  have K4 : ∀ N1 : jM, N1 = (ptv M 64 24 (iv M 20 6) (iv M 20 2)) → Run (e + 1) mX3_beginSum 15 [some (vR 20)] [] N1 Q := by
    intro N1 hN3
    have sN2 : Shp N1 := by rw [hN3]; exact hS
    exact r_vret dX3_beginSum_15 rfl (h N1 hN3 sN2)
  exact K4 _ rfl
theorem vk_lendClause {e : Nat} {M : jM} {Q : Option jV → jM → Prop}  (he : 1 ≤ e) (hS : Shp M)
  (h : ∀ N1 : jM, N1 = (ptv M 64 25 (iv M 20 6) (iv M 20 2)) → Shp N1 → (∀ N3 : jM, N3 = (si N1 20 6 (w32 ((iv N1 20 6) + (1 : Int)))) → Shp N3 → (Q none N3))) :
  Call (e + 1) mX3_endClause [vR 20] M Q := by
  show Run (e + 1) mX3_endClause 0 [some (vR 20)] [] M Q
  refine r_aload_n dX3_endClause_0 rfl ?_
  refine r_getS (v := 25) dX3_endClause_1 kF3_24 (sh_o hS kk20 (by decide)) (sh_f hS rr20_5 (by decide)) ?_
  refine r_aload_n dX3_endClause_4 rfl ?_
  refine r_get0 dX3_endClause_5 kF3_34 (sh_o hS kk20 (by decide)) ?_
  refine r_aload_n dX3_endClause_8 rfl ?_
  refine r_get0 dX3_endClause_9 kF3_30 (sh_o hS kk20 (by decide)) ?_
  refine r_invS_v dX3_endClause_12 (by decide) kXn3_37 kM3_37 (by decide) (Nat.le_of_ble_eq_true rfl) rfl rfl (Nat.le_of_ble_eq_true rfl) (Nat.le_of_ble_eq_true rfl) (c_put (by omega) (sh_r hS kk25 (by decide)) (by decide) ⟨rfl, ?_⟩)
  have K6 : ∀ N1 : jM, N1 = (ptv M 64 25 (iv M 20 6) (iv M 20 2)) → Run (e + 1) mX3_endClause 15 [some (vR 20)] [] N1 Q := by
    intro N1 hN5
    have sN2 : Shp N1 := by rw [hN5]; exact hS
    refine r_aload_n dX3_endClause_15 rfl ?_
    refine r_dupR dX3_endClause_16 ?_
    refine r_get0 dX3_endClause_17 kF3_34 (sh_o sN2 kk20 (by decide)) ?_
    refine r_iconst dX3_endClause_20 (by decide) ?_
    refine r_iadd dX3_endClause_21 ?_
    refine r_put0 dX3_endClause_22 kF3_34 (sh_o sN2 kk20 (by decide)) (Or.inl rfl) ?_
    have K8 : ∀ N3 : jM, N3 = (si N1 20 6 (w32 ((iv N1 20 6) + (1 : Int)))) → Run (e + 1) mX3_endClause 25 [some (vR 20)] [] N3 Q := by
      intro N3 hN7
      have sN4 : Shp N3 := by rw [hN7]; exact sN2
      exact r_vret dX3_endClause_25 rfl ((h N1 hN5 sN2) N3 hN7 sN4)
    exact K8 _ rfl
  exact K6 _ rfl
theorem vk_ladd {e : Nat} {M : jM} {Q : Option jV → jM → Prop} {sg : Int} {x : Int} (he : 1 ≤ e) (hS : Shp M)
  (h : ∀ N1 : jM, N1 = (ptv M 240 21 (iv M 20 2) sg) → Shp N1 → (∀ N3 : jM, N3 = (ptv N1 240 22 (iv N1 20 2) x) → Shp N3 → (∀ N5 : jM, N5 = (si N3 20 2 (w32 ((iv N3 20 2) + (1 : Int)))) → Shp N5 → (Q none N5)))) :
  Call (e + 1) mX3_add [vR 20, vI sg, vI x] M Q := by
  show Run (e + 1) mX3_add 0 [some (vR 20), some (vI sg), some (vI x)] [] M Q
  refine r_aload_n dX3_add_0 rfl ?_
  refine r_getS (v := 21) dX3_add_1 kF3_9 (sh_o hS kk20 (by decide)) (sh_f hS rr20_0 (by decide)) ?_
  refine r_aload_n dX3_add_4 rfl ?_
  refine r_get0 dX3_add_5 kF3_30 (sh_o hS kk20 (by decide)) ?_
  refine r_iload_n dX3_add_8 rfl ?_
  refine r_invS_v dX3_add_9 (by decide) kXn3_37 kM3_37 (by decide) (Nat.le_of_ble_eq_true rfl) rfl rfl (Nat.le_of_ble_eq_true rfl) (Nat.le_of_ble_eq_true rfl) (c_put (by omega) (sh_r hS kk21 (by decide)) (by decide) ⟨rfl, ?_⟩)
  have K8 : ∀ N1 : jM, N1 = (ptv M 240 21 (iv M 20 2) sg) → Run (e + 1) mX3_add 12 [some (vR 20), some (vI sg), some (vI x)] [] N1 Q := by
    intro N1 hN7
    have sN2 : Shp N1 := by rw [hN7]; exact hS
    refine r_aload_n dX3_add_12 rfl ?_
    refine r_getS (v := 22) dX3_add_13 kF3_15 (sh_o sN2 kk20 (by decide)) (sh_f sN2 rr20_1 (by decide)) ?_
    refine r_aload_n dX3_add_16 rfl ?_
    refine r_get0 dX3_add_17 kF3_30 (sh_o sN2 kk20 (by decide)) ?_
    refine r_iload_n dX3_add_20 rfl ?_
    refine r_invS_v dX3_add_21 (by decide) kXn3_37 kM3_37 (by decide) (Nat.le_of_ble_eq_true rfl) rfl rfl (Nat.le_of_ble_eq_true rfl) (Nat.le_of_ble_eq_true rfl) (c_put (by omega) (sh_r sN2 kk22 (by decide)) (by decide) ⟨rfl, ?_⟩)
    have K10 : ∀ N3 : jM, N3 = (ptv N1 240 22 (iv N1 20 2) x) → Run (e + 1) mX3_add 24 [some (vR 20), some (vI sg), some (vI x)] [] N3 Q := by
      intro N3 hN9
      have sN4 : Shp N3 := by rw [hN9]; exact sN2
      refine r_aload_n dX3_add_24 rfl ?_
      refine r_dupR dX3_add_25 ?_
      refine r_get0 dX3_add_26 kF3_30 (sh_o sN4 kk20 (by decide)) ?_
      refine r_iconst dX3_add_29 (by decide) ?_
      refine r_iadd dX3_add_30 ?_
      refine r_put0 dX3_add_31 kF3_30 (sh_o sN4 kk20 (by decide)) (Or.inl rfl) ?_
      have K12 : ∀ N5 : jM, N5 = (si N3 20 2 (w32 ((iv N3 20 2) + (1 : Int)))) → Run (e + 1) mX3_add 34 [some (vR 20), some (vI sg), some (vI x)] [] N5 Q := by
        intro N5 hN11
        have sN6 : Shp N5 := by rw [hN11]; exact sN4
        exact r_vret dX3_add_34 rfl (((h N1 hN7 sN2) N3 hN9 sN4) N5 hN11 sN6)
      exact K12 _ rfl
    exact K10 _ rfl
  exact K8 _ rfl
section VcpSmall
variable {d : Nat} {M : jM} {Q : Option jV → jM → Prop}
theorem c_isDigit {c : Int} (hd : 2 ≤ d) (hS : Shp M) (h : Q (some (vI (fDg c))) M) : Call d mX8_isDigit [vI c] M Q := by
  obtain ⟨e, rfl⟩ := dd (d := d) (by omega)
  refine vk_isDigit (by omega) hS ?_
  refine (congrArg (fun z => Q (some (vI z)) M) ?_).mp h
  unfold fDg
  by_cases c1 : c < 48
  · rw [if_pos c1, if_neg (by omega)]
  · by_cases c2 : 57 < c
    · rw [if_neg c1, if_pos c2, if_neg (by omega)]
    · rw [if_neg c1, if_neg c2, if_pos ⟨by omega, by omega⟩]
theorem c_isCmp {c : Int} (hd : 2 ≤ d) (hS : Shp M) (h : Q (some (vI (fSg c))) M) : Call d mX4_isComparison [vI c] M Q := by
  obtain ⟨e, rfl⟩ := dd (d := d) (by omega)
  refine vk_isCmp (by omega) hS ?_
  refine (congrArg (fun z => Q (some (vI z)) M) ?_).mp h
  unfold fSg
  by_cases c1 : c = 61
  · rw [if_pos c1, if_pos (Or.inl c1)]
  · by_cases c2 : c = 60
    · rw [if_neg c1, if_pos c2, if_pos (Or.inr (Or.inl c2))]
    · by_cases c3 : c = 62
      · rw [if_neg c1, if_neg c2, if_pos (show c = 61 ∨ c = 60 ∨ c = 62 from Or.inr (Or.inr c3)), if_neg (fun z : c ≠ 62 => z c3)]
      · rw [if_neg c1, if_neg c2, if_pos c3, if_neg (by omega)]
theorem c_letter {c : Int} (hd : 2 ≤ d) (hS : Shp M) (h : Q (some (vI (fLt c))) M) : Call d mX4_letterOf [vI c] M Q := by
  obtain ⟨e, rfl⟩ := dd (d := d) (by omega)
  unfold fLt at h
  refine vk_letter (by omega) hS ⟨fun z => ?_, fun z => ?_, fun z => ?_, fun z => ?_, fun z => ?_, fun z => ?_, fun z => ?_⟩
  · subst z; exact h
  · subst z; exact h
  · subst z; exact h
  · subst z; exact h
  · subst z; exact h
  · subst z; exact h
  · obtain ⟨z1, z2, z3, z4, z5, z6⟩ := z
    rw [if_neg z5, if_neg z4, if_neg z1, if_neg z2, if_neg z6, if_neg z3] at h
    exact h
theorem c_failAt {w : Int} (hd : 2 ≤ d) (hS : Shp M) (h : Q (some (vI 0)) (si M 7 3 w)) : Call d mX8_failAt [vR 7, vI w] M Q := by
  obtain ⟨e, rfl⟩ := dd (d := d) (by omega)
  exact vk_failAt (by omega) hS (fun N hN _ => by rw [hN]; exact h)
theorem c_fail (hd : 3 ≤ d) (hS : Shp M) (h : Q (some (vI 0)) (si M 7 3 (iv M 7 2))) : Call d mX8_fail [vR 7] M Q := by
  obtain ⟨e, rfl⟩ := dd (d := d) (by omega)
  exact vk_fail (by omega) hS (c_failAt (by omega) hS ⟨_, rfl, hS, Or.inl rfl, h⟩)
theorem c_step (hd : 2 ≤ d) (hS : Shp M) (h : Q none (si M 7 2 (if iv M 7 2 < iv M 7 1 then w32 (iv M 7 2 + 1) else iv M 7 2))) : Call d mX8_step [vR 7] M Q := by
  obtain ⟨e, rfl⟩ := dd (d := d) (by omega)
  refine vk_step (by omega) hS ⟨fun c => ?_, fun c N hN _ => ?_⟩
  · rw [if_neg (by omega)] at h
    have e : si M 7 2 (iv M 7 2) = M := by
      show wi M (fun r i => if r = 7 ∧ i = 2 then iv M 7 2 else iv M r i) = M
      have : (fun r i => if r = 7 ∧ i = 2 then iv M 7 2 else iv M r i) = iv M := by
        funext r i
        by_cases z : r = 7 ∧ i = 2
        · rw [if_pos z, z.1, z.2]
        · rw [if_neg z]
      rw [this]
      exact wi_self
    rw [e] at h
    exact h
  · rw [if_pos (by omega)] at h
    rw [hN]; exact h
theorem c_rewind (hd : 2 ≤ d) (hS : Shp M) (h : Q none (si (si M 7 2 0) 7 3 (-1))) : Call d mX8_rewind [vR 7] M Q := by
  obtain ⟨e, rfl⟩ := dd (d := d) (by omega)
  exact vk_rewind (by omega) hS (fun N hN _ N2 h2 _ => by rw [h2, hN]; exact h)
theorem c_lclear (hd : 2 ≤ d) (hS : Shp M) (h : Q none (si (si M 20 2 0) 20 6 0)) : Call d mX3_clear [vR 20] M Q := by
  obtain ⟨e, rfl⟩ := dd (d := d) (by omega)
  exact vk_lclear (by omega) hS (fun N hN _ N2 h2 _ => by rw [h2, hN]; exact h)
theorem c_begC (hd : 2 ≤ d) (hS : Shp M) (h : Q none (ptv (ptv M 64 23 (iv M 20 6) (iv M 20 2)) 64 24 (iv M 20 6) (iv M 20 2))) : Call d mX3_beginClause [vR 20] M Q := by
  obtain ⟨e, rfl⟩ := dd (d := d) (by omega)
  refine vk_lbeginClause (by omega) hS (fun N hN _ N2 h2 _ => ?_)
  have e : ∀ i, iv N 20 i = iv M 20 i := fun i => by rw [hN, iv_ptv, if_neg (by omega)]
  rw [h2, e, e, hN]
  exact h
theorem c_begS (hd : 2 ≤ d) (hS : Shp M) (h : Q none (ptv M 64 24 (iv M 20 6) (iv M 20 2))) : Call d mX3_beginSum [vR 20] M Q := by
  obtain ⟨e, rfl⟩ := dd (d := d) (by omega)
  exact vk_lbeginSum (by omega) hS (fun N hN _ => by rw [hN]; exact h)
theorem c_endC (hd : 2 ≤ d) (hS : Shp M) (h : Q none (si (ptv M 64 25 (iv M 20 6) (iv M 20 2)) 20 6 (w32 (iv M 20 6 + 1)))) : Call d mX3_endClause [vR 20] M Q := by
  obtain ⟨e, rfl⟩ := dd (d := d) (by omega)
  refine vk_lendClause (by omega) hS (fun N hN _ N2 h2 _ => ?_)
  have e : ∀ i, iv N 20 i = iv M 20 i := fun i => by rw [hN, iv_ptv, if_neg (by omega)]
  rw [h2, e, hN]
  exact h
theorem c_add {sg x : Int} (hd : 2 ≤ d) (hS : Shp M) (h : Q none (si (ptv (ptv M 240 21 (iv M 20 2) sg) 240 22 (iv M 20 2) x) 20 2 (w32 (iv M 20 2 + 1)))) : Call d mX3_add [vR 20, vI sg, vI x] M Q := by
  obtain ⟨e, rfl⟩ := dd (d := d) (by omega)
  refine vk_ladd (by omega) hS (fun N hN _ N2 h2 _ N3 h3 _ => ?_)
  have e : ∀ i, iv N 20 i = iv M 20 i := fun i => by rw [hN, iv_ptv, if_neg (by omega)]
  have e2 : ∀ i, iv N2 20 i = iv M 20 i := fun i => by rw [h2, iv_ptv, if_neg (by omega), e]
  rw [h3, e2, h2, e, hN]
  exact h
end VcpSmall
theorem vk_append {e : Nat} {M : jM} {Q : Option jV → jM → Prop} {n : Int} (he : 4 ≤ e) (hS : Shp M)
  (h : Run (e + 1) mX8_append 3 [some (vR 7), some (vI n), some (vI (24 : Int)), none] [] M Q) :
  Call (e + 1) mX8_append [vR 7, vI n] M Q := by
  show Run (e + 1) mX8_append 0 [some (vR 7), some (vI n), none, none] [] M Q
  refine r_bipush dX8_append_0 (by decide) ?_
  refine r_istore_n (ls2 := [some (vR 7), some (vI n), some (vI (24 : Int)), none]) dX8_append_2 (Nat.le_of_ble_eq_true rfl) rfl ?_
  exact h
theorem vk_append_3 {e : Nat} {M : jM} {Q : Option jV → jM → Prop} {n : Int} {l2 : Int} {l3 : Option jV}  (he : 4 ≤ e) (hS : Shp M)
  (h : ((l2 < (0 : Int)) → (Q none M)) ∧ (¬ (l2 < (0 : Int)) → ((((jand (jushr n l2) (255 : Int)) = (0 : Int)) → (Run (e + 1) mX8_append 3 [some (vR 7), some (vI n), some (vI (w32 (l2 + (-8 : Int)))), some (vI (jand (jushr n l2) (255 : Int)))] [] M Q)) ∧ (¬ ((jand (jushr n l2) (255 : Int)) = (0 : Int)) → ((((240 : Int) ≤ (iv M 7 1)) → (Run (e + 1) mX8_append 3 [some (vR 7), some (vI n), some (vI (w32 (l2 + (-8 : Int)))), some (vI (jand (jushr n l2) (255 : Int)))] [] M Q)) ∧ (¬ ((240 : Int) ≤ (iv M 7 1)) → (∀ N4 : jM, N4 = (ptv M 240 8 (iv M 7 1) (jand (jushr n l2) (255 : Int))) → Shp N4 → (∀ N6 : jM, N6 = (si N4 7 1 (w32 ((iv N4 7 1) + (1 : Int)))) → Shp N6 → (Run (e + 1) mX8_append 3 [some (vR 7), some (vI n), some (vI (w32 (l2 + (-8 : Int)))), some (vI (jand (jushr n l2) (255 : Int)))] [] N6 Q))))))))) :
  Run (e + 1) mX8_append 3 [some (vR 7), some (vI n), some (vI l2), l3] [] M Q := by
  refine r_iload_n dX8_append_3 rfl ?_
  refine r_if_lt dX8_append_4 rfl (fun c1 => ?_) (fun c1 => ?_)
  · exact r_vret dX8_append_57 rfl (h.1 c1)
  · refine r_iload_n dX8_append_7 rfl ?_
    refine r_iload_n dX8_append_8 rfl ?_
    refine r_iushr dX8_append_9 ?_
    refine r_sipush dX8_append_10 (by decide) ?_
    refine r_iand dX8_append_13 ?_
    refine r_istore_n (ls2 := [some (vR 7), some (vI n), some (vI l2), some (vI (jand (jushr n l2) (255 : Int)))]) dX8_append_14 (Nat.le_of_ble_eq_true rfl) rfl ?_
    refine r_iload_n dX8_append_15 rfl ?_
    refine r_if_eq dX8_append_16 rfl (fun c2 => ?_) (fun c2 => ?_)
    · refine r_iinc (ls2 := [some (vR 7), some (vI n), some (vI (w32 (l2 + (-8 : Int)))), some (vI (jand (jushr n l2) (255 : Int)))]) dX8_append_51 rfl rfl ?_
      refine r_goto (tgt := 3) dX8_append_54 rfl ?_
      exact ((h.2 c1).1 c2)
    · refine r_aload_n dX8_append_19 rfl ?_
      refine r_get0 dX8_append_20 kF8_19 (sh_o hS kk7 (by decide)) ?_
      refine r_sipush dX8_append_23 (by decide) ?_
      refine r_icmp_ge dX8_append_26 rfl (fun c3 => ?_) (fun c3 => ?_)
      · refine r_iinc (ls2 := [some (vR 7), some (vI n), some (vI (w32 (l2 + (-8 : Int)))), some (vI (jand (jushr n l2) (255 : Int)))]) dX8_append_51 rfl rfl ?_
        refine r_goto (tgt := 3) dX8_append_54 rfl ?_
        exact (((h.2 c1).2 c2).1 c3)
      · refine r_aload_n dX8_append_29 rfl ?_
        refine r_getS (v := 8) dX8_append_30 kF8_9 (sh_o hS kk7 (by decide)) (sh_f hS rr7_0 (by decide)) ?_
        refine r_aload_n dX8_append_33 rfl ?_
        refine r_get0 dX8_append_34 kF8_19 (sh_o hS kk7 (by decide)) ?_
        refine r_iload_n dX8_append_37 rfl ?_
        refine r_invS_v dX8_append_38 (by decide) kXn8_22 kM8_22 (by decide) (Nat.le_of_ble_eq_true rfl) rfl rfl (Nat.le_of_ble_eq_true rfl) (Nat.le_of_ble_eq_true rfl) (c_put (by omega) (sh_r hS kk8 (by decide)) (by decide) ⟨rfl, ?_⟩)
        have K9 : ∀ N4 : jM, N4 = (ptv M 240 8 (iv M 7 1) (jand (jushr n l2) (255 : Int))) → Run (e + 1) mX8_append 41 [some (vR 7), some (vI n), some (vI l2), some (vI (jand (jushr n l2) (255 : Int)))] [] N4 Q := by
          intro N4 hN8
          have sN5 : Shp N4 := by rw [hN8]; exact hS
          refine r_aload_n dX8_append_41 rfl ?_
          refine r_dupR dX8_append_42 ?_
          refine r_get0 dX8_append_43 kF8_19 (sh_o sN5 kk7 (by decide)) ?_
          refine r_iconst dX8_append_46 (by decide) ?_
          refine r_iadd dX8_append_47 ?_
          refine r_put0 dX8_append_48 kF8_19 (sh_o sN5 kk7 (by decide)) (Or.inl rfl) ?_
          have K11 : ∀ N6 : jM, N6 = (si N4 7 1 (w32 ((iv N4 7 1) + (1 : Int)))) → Run (e + 1) mX8_append 51 [some (vR 7), some (vI n), some (vI l2), some (vI (jand (jushr n l2) (255 : Int)))] [] N6 Q := by
            intro N6 hN10
            have sN7 : Shp N6 := by rw [hN10]; exact sN5
            refine r_iinc (ls2 := [some (vR 7), some (vI n), some (vI (w32 (l2 + (-8 : Int)))), some (vI (jand (jushr n l2) (255 : Int)))]) dX8_append_51 rfl rfl ?_
            refine r_goto (tgt := 3) dX8_append_54 rfl ?_
            exact (((((h.2 c1).2 c2).2 c3) N4 hN8 sN5) N6 hN10 sN7)
          exact K11 _ rfl
        exact K9 _ rfl
theorem vk_next {e : Nat} {M : jM} {Q : Option jV → jM → Prop}  (he : 4 ≤ e) (hS : Shp M)
  (h : (((iv M 7 1) ≤ (iv M 7 2)) → (∀ v2 : Int, v2 = ((if (iv M 7 1) ≤ (iv M 7 2) then (-1 : Int) else (atv M 240 8 (iv M 7 2)))) → (Q (some (vI v2)) M))) ∧ (¬ ((iv M 7 1) ≤ (iv M 7 2)) → ((((atv M 240 8 (iv M 7 2)) ≠ (32 : Int)) → (∀ v4 : Int, v4 = ((if (iv M 7 1) ≤ (iv M 7 2) then (-1 : Int) else (atv M 240 8 (iv M 7 2)))) → (Q (some (vI v4)) M))) ∧ (¬ ((atv M 240 8 (iv M 7 2)) ≠ (32 : Int)) → (∀ N5 : jM, N5 = (si M 7 2 (w32 ((iv M 7 2) + (1 : Int)))) → Shp N5 → (Run (e + 1) mX8_next 0 [some (vR 7)] [] N5 Q)))))) :
  Call (e + 1) mX8_next [vR 7] M Q := by
  show Run (e + 1) mX8_next 0 [some (vR 7)] [] M Q
  refine r_aload_n dX8_next_0 rfl ?_
  refine r_get0 dX8_next_1 kF8_26 (sh_o hS kk7 (by decide)) ?_
  refine r_aload_n dX8_next_4 rfl ?_
  refine r_get0 dX8_next_5 kF8_19 (sh_o hS kk7 (by decide)) ?_
  refine r_icmp_ge dX8_next_8 rfl (fun c1 => ?_) (fun c1 => ?_)
  · refine r_aload_n dX8_next_40 rfl ?_
    refine r_get0 dX8_next_41 kF8_26 (sh_o hS kk7 (by decide)) ?_
    refine r_aload_n dX8_next_44 rfl ?_
    refine r_get0 dX8_next_45 kF8_19 (sh_o hS kk7 (by decide)) ?_
    have K7 : Run (e + 1) mX8_next 66 [some (vR 7)] [vI (if (iv M 7 1) ≤ (iv M 7 2) then (-1 : Int) else (atv M 240 8 (iv M 7 2)))] M Q := by
      have K9 : ∀ v2 : Int, v2 = ((if (iv M 7 1) ≤ (iv M 7 2) then (-1 : Int) else (atv M 240 8 (iv M 7 2)))) → Run (e + 1) mX8_next 66 [some (vR 7)] [vI v2] M Q := by
        intro v2 hv8
        exact r_iret dX8_next_66 rfl ((h.1 c1) v2 hv8)
      exact K9 _ rfl
    refine r_icmp_ge dX8_next_48 rfl (fun q10 => ?_) (fun q10 => ?_)
    · rw [if_pos q10] at K7
      refine r_iconst dX8_next_65 (by decide) ?_
      exact K7
    · rw [if_neg q10] at K7
      refine r_aload_n dX8_next_51 rfl ?_
      refine r_getS (v := 8) dX8_next_52 kF8_9 (sh_o hS kk7 (by decide)) (sh_f hS rr7_0 (by decide)) ?_
      refine r_aload_n dX8_next_55 rfl ?_
      refine r_get0 dX8_next_56 kF8_26 (sh_o hS kk7 (by decide)) ?_
      refine r_invS_i dX8_next_59 (by decide) kXn8_29 kM8_29 (by decide) (Nat.le_of_ble_eq_true rfl) rfl rfl (Nat.le_of_ble_eq_true rfl) (Nat.le_of_ble_eq_true rfl) (c_at (by omega) (sh_r hS kk8 (by decide)) ⟨_, rfl, ?_⟩)
      refine r_goto (tgt := 66) dX8_next_62 rfl ?_
      exact K7
  · refine r_aload_n dX8_next_11 rfl ?_
    refine r_getS (v := 8) dX8_next_12 kF8_9 (sh_o hS kk7 (by decide)) (sh_f hS rr7_0 (by decide)) ?_
    refine r_aload_n dX8_next_15 rfl ?_
    refine r_get0 dX8_next_16 kF8_26 (sh_o hS kk7 (by decide)) ?_
    refine r_invS_i dX8_next_19 (by decide) kXn8_29 kM8_29 (by decide) (Nat.le_of_ble_eq_true rfl) rfl rfl (Nat.le_of_ble_eq_true rfl) (Nat.le_of_ble_eq_true rfl) (c_at (by omega) (sh_r hS kk8 (by decide)) ⟨_, rfl, ?_⟩)
    refine r_bipush dX8_next_22 (by decide) ?_
    refine r_icmp_ne dX8_next_24 rfl (fun c3 => ?_) (fun c3 => ?_)
    · refine r_aload_n dX8_next_40 rfl ?_
      refine r_get0 dX8_next_41 kF8_26 (sh_o hS kk7 (by decide)) ?_
      refine r_aload_n dX8_next_44 rfl ?_
      refine r_get0 dX8_next_45 kF8_19 (sh_o hS kk7 (by decide)) ?_
      have K12 : Run (e + 1) mX8_next 66 [some (vR 7)] [vI (if (iv M 7 1) ≤ (iv M 7 2) then (-1 : Int) else (atv M 240 8 (iv M 7 2)))] M Q := by
        have K14 : ∀ v4 : Int, v4 = ((if (iv M 7 1) ≤ (iv M 7 2) then (-1 : Int) else (atv M 240 8 (iv M 7 2)))) → Run (e + 1) mX8_next 66 [some (vR 7)] [vI v4] M Q := by
          intro v4 hv13
          exact r_iret dX8_next_66 rfl (((h.2 c1).1 c3) v4 hv13)
        exact K14 _ rfl
      refine r_icmp_ge dX8_next_48 rfl (fun q15 => ?_) (fun q15 => ?_)
      · rw [if_pos q15] at K12
        refine r_iconst dX8_next_65 (by decide) ?_
        exact K12
      · rw [if_neg q15] at K12
        refine r_aload_n dX8_next_51 rfl ?_
        refine r_getS (v := 8) dX8_next_52 kF8_9 (sh_o hS kk7 (by decide)) (sh_f hS rr7_0 (by decide)) ?_
        refine r_aload_n dX8_next_55 rfl ?_
        refine r_get0 dX8_next_56 kF8_26 (sh_o hS kk7 (by decide)) ?_
        refine r_invS_i dX8_next_59 (by decide) kXn8_29 kM8_29 (by decide) (Nat.le_of_ble_eq_true rfl) rfl rfl (Nat.le_of_ble_eq_true rfl) (Nat.le_of_ble_eq_true rfl) (c_at (by omega) (sh_r hS kk8 (by decide)) ⟨_, rfl, ?_⟩)
        refine r_goto (tgt := 66) dX8_next_62 rfl ?_
        exact K12
    · refine r_aload_n dX8_next_27 rfl ?_
      refine r_dupR dX8_next_28 ?_
      refine r_get0 dX8_next_29 kF8_26 (sh_o hS kk7 (by decide)) ?_
      refine r_iconst dX8_next_32 (by decide) ?_
      refine r_iadd dX8_next_33 ?_
      refine r_put0 dX8_next_34 kF8_26 (sh_o hS kk7 (by decide)) (Or.inl rfl) ?_
      have K18 : ∀ N5 : jM, N5 = (si M 7 2 (w32 ((iv M 7 2) + (1 : Int)))) → Run (e + 1) mX8_next 37 [some (vR 7)] [] N5 Q := by
        intro N5 hN17
        have sN6 : Shp N5 := by rw [hN17]; exact hS
        refine r_goto (tgt := 0) dX8_next_37 rfl ?_
        exact (((h.2 c1).2 c3) N5 hN17 sN6)
      exact K18 _ rfl
theorem vk_next_0 {e : Nat} {M : jM} {Q : Option jV → jM → Prop}   (he : 4 ≤ e) (hS : Shp M)
  (h : (((iv M 7 1) ≤ (iv M 7 2)) → (∀ v20 : Int, v20 = ((if (iv M 7 1) ≤ (iv M 7 2) then (-1 : Int) else (atv M 240 8 (iv M 7 2)))) → (Q (some (vI v20)) M))) ∧ (¬ ((iv M 7 1) ≤ (iv M 7 2)) → ((((atv M 240 8 (iv M 7 2)) ≠ (32 : Int)) → (∀ v22 : Int, v22 = ((if (iv M 7 1) ≤ (iv M 7 2) then (-1 : Int) else (atv M 240 8 (iv M 7 2)))) → (Q (some (vI v22)) M))) ∧ (¬ ((atv M 240 8 (iv M 7 2)) ≠ (32 : Int)) → (∀ N23 : jM, N23 = (si M 7 2 (w32 ((iv M 7 2) + (1 : Int)))) → Shp N23 → (Run (e + 1) mX8_next 0 [some (vR 7)] [] N23 Q)))))) :
  Run (e + 1) mX8_next 0 [some (vR 7)] [] M Q := by
  refine r_aload_n dX8_next_0 rfl ?_
  refine r_get0 dX8_next_1 kF8_26 (sh_o hS kk7 (by decide)) ?_
  refine r_aload_n dX8_next_4 rfl ?_
  refine r_get0 dX8_next_5 kF8_19 (sh_o hS kk7 (by decide)) ?_
  refine r_icmp_ge dX8_next_8 rfl (fun c19 => ?_) (fun c19 => ?_)
  · refine r_aload_n dX8_next_40 rfl ?_
    refine r_get0 dX8_next_41 kF8_26 (sh_o hS kk7 (by decide)) ?_
    refine r_aload_n dX8_next_44 rfl ?_
    refine r_get0 dX8_next_45 kF8_19 (sh_o hS kk7 (by decide)) ?_
    have K25 : Run (e + 1) mX8_next 66 [some (vR 7)] [vI (if (iv M 7 1) ≤ (iv M 7 2) then (-1 : Int) else (atv M 240 8 (iv M 7 2)))] M Q := by
      have K27 : ∀ v20 : Int, v20 = ((if (iv M 7 1) ≤ (iv M 7 2) then (-1 : Int) else (atv M 240 8 (iv M 7 2)))) → Run (e + 1) mX8_next 66 [some (vR 7)] [vI v20] M Q := by
        intro v20 hv26
        exact r_iret dX8_next_66 rfl ((h.1 c19) v20 hv26)
      exact K27 _ rfl
    refine r_icmp_ge dX8_next_48 rfl (fun q28 => ?_) (fun q28 => ?_)
    · rw [if_pos q28] at K25
      refine r_iconst dX8_next_65 (by decide) ?_
      exact K25
    · rw [if_neg q28] at K25
      refine r_aload_n dX8_next_51 rfl ?_
      refine r_getS (v := 8) dX8_next_52 kF8_9 (sh_o hS kk7 (by decide)) (sh_f hS rr7_0 (by decide)) ?_
      refine r_aload_n dX8_next_55 rfl ?_
      refine r_get0 dX8_next_56 kF8_26 (sh_o hS kk7 (by decide)) ?_
      refine r_invS_i dX8_next_59 (by decide) kXn8_29 kM8_29 (by decide) (Nat.le_of_ble_eq_true rfl) rfl rfl (Nat.le_of_ble_eq_true rfl) (Nat.le_of_ble_eq_true rfl) (c_at (by omega) (sh_r hS kk8 (by decide)) ⟨_, rfl, ?_⟩)
      refine r_goto (tgt := 66) dX8_next_62 rfl ?_
      exact K25
  · refine r_aload_n dX8_next_11 rfl ?_
    refine r_getS (v := 8) dX8_next_12 kF8_9 (sh_o hS kk7 (by decide)) (sh_f hS rr7_0 (by decide)) ?_
    refine r_aload_n dX8_next_15 rfl ?_
    refine r_get0 dX8_next_16 kF8_26 (sh_o hS kk7 (by decide)) ?_
    refine r_invS_i dX8_next_19 (by decide) kXn8_29 kM8_29 (by decide) (Nat.le_of_ble_eq_true rfl) rfl rfl (Nat.le_of_ble_eq_true rfl) (Nat.le_of_ble_eq_true rfl) (c_at (by omega) (sh_r hS kk8 (by decide)) ⟨_, rfl, ?_⟩)
    refine r_bipush dX8_next_22 (by decide) ?_
    refine r_icmp_ne dX8_next_24 rfl (fun c21 => ?_) (fun c21 => ?_)
    · refine r_aload_n dX8_next_40 rfl ?_
      refine r_get0 dX8_next_41 kF8_26 (sh_o hS kk7 (by decide)) ?_
      refine r_aload_n dX8_next_44 rfl ?_
      refine r_get0 dX8_next_45 kF8_19 (sh_o hS kk7 (by decide)) ?_
      have K30 : Run (e + 1) mX8_next 66 [some (vR 7)] [vI (if (iv M 7 1) ≤ (iv M 7 2) then (-1 : Int) else (atv M 240 8 (iv M 7 2)))] M Q := by
        have K32 : ∀ v22 : Int, v22 = ((if (iv M 7 1) ≤ (iv M 7 2) then (-1 : Int) else (atv M 240 8 (iv M 7 2)))) → Run (e + 1) mX8_next 66 [some (vR 7)] [vI v22] M Q := by
          intro v22 hv31
          exact r_iret dX8_next_66 rfl (((h.2 c19).1 c21) v22 hv31)
        exact K32 _ rfl
      refine r_icmp_ge dX8_next_48 rfl (fun q33 => ?_) (fun q33 => ?_)
      · rw [if_pos q33] at K30
        refine r_iconst dX8_next_65 (by decide) ?_
        exact K30
      · rw [if_neg q33] at K30
        refine r_aload_n dX8_next_51 rfl ?_
        refine r_getS (v := 8) dX8_next_52 kF8_9 (sh_o hS kk7 (by decide)) (sh_f hS rr7_0 (by decide)) ?_
        refine r_aload_n dX8_next_55 rfl ?_
        refine r_get0 dX8_next_56 kF8_26 (sh_o hS kk7 (by decide)) ?_
        refine r_invS_i dX8_next_59 (by decide) kXn8_29 kM8_29 (by decide) (Nat.le_of_ble_eq_true rfl) rfl rfl (Nat.le_of_ble_eq_true rfl) (Nat.le_of_ble_eq_true rfl) (c_at (by omega) (sh_r hS kk8 (by decide)) ⟨_, rfl, ?_⟩)
        refine r_goto (tgt := 66) dX8_next_62 rfl ?_
        exact K30
    · refine r_aload_n dX8_next_27 rfl ?_
      refine r_dupR dX8_next_28 ?_
      refine r_get0 dX8_next_29 kF8_26 (sh_o hS kk7 (by decide)) ?_
      refine r_iconst dX8_next_32 (by decide) ?_
      refine r_iadd dX8_next_33 ?_
      refine r_put0 dX8_next_34 kF8_26 (sh_o hS kk7 (by decide)) (Or.inl rfl) ?_
      have K36 : ∀ N23 : jM, N23 = (si M 7 2 (w32 ((iv M 7 2) + (1 : Int)))) → Run (e + 1) mX8_next 37 [some (vR 7)] [] N23 Q := by
        intro N23 hN35
        have sN24 : Shp N23 := by rw [hN35]; exact hS
        refine r_goto (tgt := 0) dX8_next_37 rfl ?_
        exact (((h.2 c19).2 c21) N23 hN35 sN24)
      exact K36 _ rfl
theorem vk_take {e : Nat} {M : jM} {Q : Option jV → jM → Prop} {c : Int} (he : 4 ≤ e) (hS : Shp M)
  (h : Call e mX8_next [vR 7] M (fun r4 M2 => ∃ z1 : Int, r4 = some (vI z1) ∧ Shp M2 ∧ (((z1 = c) → (∀ N7 : jM, N7 = (si M2 7 2 (if iv M2 7 2 < iv M2 7 1 then w32 (iv M2 7 2 + 1) else iv M2 7 2)) → Shp N7 → (Q (some (vI (1 : Int))) N7))) ∧ (¬ (z1 = c) → (Q (some (vI (0 : Int))) M2))))) :
  Call (e + 1) mX8_take [vR 7, vI c] M Q := by
  show Run (e + 1) mX8_take 0 [some (vR 7), some (vI c)] [] M Q
  refine r_aload_n dX8_take_0 rfl ?_
  refine r_invV_i dX8_take_1 kM8_33 (by decide) (Nat.le_of_ble_eq_true rfl) rfl rfl (Nat.le_of_ble_eq_true rfl) (Nat.le_of_ble_eq_true rfl) (sh_o hS kk7 (by decide)) (Call.mono h (Nat.le_refl _) ?_)
  rintro _ M2 ⟨z1, rfl, s5, h3⟩
  refine ⟨_, rfl, ?_⟩
  refine r_iload_n dX8_take_4 rfl ?_
  refine r_icmp_eq dX8_take_5 rfl (fun c6 => ?_) (fun c6 => ?_)
  · refine r_aload_n dX8_take_10 rfl ?_
    refine r_invV_v dX8_take_11 kM8_37 (by decide) (Nat.le_of_ble_eq_true rfl) rfl rfl (Nat.le_of_ble_eq_true rfl) (Nat.le_of_ble_eq_true rfl) (sh_o s5 kk7 (by decide)) (c_step (by omega) s5 ⟨rfl, ?_⟩)
    have K10 : ∀ N7 : jM, N7 = (si M2 7 2 (if iv M2 7 2 < iv M2 7 1 then w32 (iv M2 7 2 + 1) else iv M2 7 2)) → Run (e + 1) mX8_take 14 [some (vR 7), some (vI c)] [] N7 Q := by
      intro N7 hN9
      have sN8 : Shp N7 := by rw [hN9]; exact s5
      refine r_iconst dX8_take_14 (by decide) ?_
      exact r_zret dX8_take_15 rfl (by decide) ((h3.1 c6) N7 hN9 sN8)
    exact K10 _ rfl
  · refine r_iconst dX8_take_8 (by decide) ?_
    exact r_zret dX8_take_9 rfl (by decide) (h3.2 c6)
theorem vk_number {e : Nat} {M : jM} {Q : Option jV → jM → Prop} {n : Int} (he : 4 ≤ e) (hS : Shp M)
  (h : Call e mX8_next [vR 7] M (fun r4 M2 => ∃ z1 : Int, r4 = some (vI z1) ∧ Shp M2 ∧ ((((fDg z1) ≠ (0 : Int)) → (Run (e + 1) mX8_number 21 [some (vR 7), some (vI n), some (vI (0 : Int)), some (vI (0 : Int))] [] M2 Q)) ∧ (¬ ((fDg z1) ≠ (0 : Int)) → (∀ N7 : jM, N7 = (si M2 7 3 (iv M2 7 2)) → Shp N7 → (Q (some (vI (-1 : Int))) N7)))))) :
  Call (e + 1) mX8_number [vR 7, vI n] M Q := by
  show Run (e + 1) mX8_number 0 [some (vR 7), some (vI n), none, none] [] M Q
  refine r_aload_n dX8_number_0 rfl ?_
  refine r_invV_i dX8_number_1 kM8_33 (by decide) (Nat.le_of_ble_eq_true rfl) rfl rfl (Nat.le_of_ble_eq_true rfl) (Nat.le_of_ble_eq_true rfl) (sh_o hS kk7 (by decide)) (Call.mono h (Nat.le_refl _) ?_)
  rintro _ M2 ⟨z1, rfl, s5, h3⟩
  refine ⟨_, rfl, ?_⟩
  refine r_invS_i dX8_number_4 (by decide) kXn8_44 kM8_44 (by decide) (Nat.le_of_ble_eq_true rfl) rfl rfl (Nat.le_of_ble_eq_true rfl) (Nat.le_of_ble_eq_true rfl) (c_isDigit (by omega) s5 ⟨_, rfl, ?_⟩)
  refine r_if_ne dX8_number_7 rfl (fun c6 => ?_) (fun c6 => ?_)
  · refine r_iconst dX8_number_17 (by decide) ?_
    refine r_istore_n (ls2 := [some (vR 7), some (vI n), some (vI (0 : Int)), none]) dX8_number_18 (Nat.le_of_ble_eq_true rfl) rfl ?_
    refine r_iconst dX8_number_19 (by decide) ?_
    refine r_istore_n (ls2 := [some (vR 7), some (vI n), some (vI (0 : Int)), some (vI (0 : Int))]) dX8_number_20 (Nat.le_of_ble_eq_true rfl) rfl ?_
    exact (h3.1 c6)
  · refine r_aload_n dX8_number_10 rfl ?_
    refine r_invV_i dX8_number_11 kM8_47 (by decide) (Nat.le_of_ble_eq_true rfl) rfl rfl (Nat.le_of_ble_eq_true rfl) (Nat.le_of_ble_eq_true rfl) (sh_o s5 kk7 (by decide)) (c_fail (by omega) s5 ⟨_, rfl, ?_⟩)
    have K10 : ∀ N7 : jM, N7 = (si M2 7 3 (iv M2 7 2)) → Run (e + 1) mX8_number 14 [some (vR 7), some (vI n), none, none] [vI (0 : Int)] N7 Q := by
      intro N7 hN9
      have sN8 : Shp N7 := by rw [hN9]; exact s5
      refine r_popI dX8_number_14 ?_
      refine r_iconst dX8_number_15 (by decide) ?_
      exact r_iret dX8_number_16 rfl ((h3.2 c6) N7 hN9 sN8)
    exact K10 _ rfl
theorem vk_number_21 {e : Nat} {M : jM} {Q : Option jV → jM → Prop} {n : Int} {l2 : Int} {l3 : Int}  (he : 4 ≤ e) (hS : Shp M)
  (h : (((iv M 7 1) ≤ (iv M 7 2)) → (Q (some (vI l2)) M)) ∧ (¬ ((iv M 7 1) ≤ (iv M 7 2)) → ((((fDg (atv M 240 8 (iv M 7 2))) = (0 : Int)) → (Q (some (vI l2)) M)) ∧ (¬ ((fDg (atv M 240 8 (iv M 7 2))) = (0 : Int)) → (((l3 ≠ n) → (∀ v14 : Int, v14 = (w32 ((w32 ((w32 (l2 * (10 : Int))) + (atv M 240 8 (iv M 7 2)))) - (48 : Int))) → (∀ N15 : jM, N15 = (si M 7 2 (w32 ((iv M 7 2) + (1 : Int)))) → Shp N15 → (Run (e + 1) mX8_number 21 [some (vR 7), some (vI n), some (vI v14), some (vI (w32 (l3 + (1 : Int))))] [] N15 Q)))) ∧ (¬ (l3 ≠ n) → (∀ N17 : jM, N17 = (si M 7 3 (iv M 7 2)) → Shp N17 → (Q (some (vI (-1 : Int))) N17)))))))) :
  Run (e + 1) mX8_number 21 [some (vR 7), some (vI n), some (vI l2), some (vI l3)] [] M Q := by
  refine r_aload_n dX8_number_21 rfl ?_
  refine r_get0 dX8_number_22 kF8_26 (sh_o hS kk7 (by decide)) ?_
  refine r_aload_n dX8_number_25 rfl ?_
  refine r_get0 dX8_number_26 kF8_19 (sh_o hS kk7 (by decide)) ?_
  refine r_icmp_ge dX8_number_29 rfl (fun c11 => ?_) (fun c11 => ?_)
  · refine r_iload_n dX8_number_97 rfl ?_
    exact r_iret dX8_number_98 rfl (h.1 c11)
  · refine r_aload_n dX8_number_32 rfl ?_
    refine r_getS (v := 8) dX8_number_33 kF8_9 (sh_o hS kk7 (by decide)) (sh_f hS rr7_0 (by decide)) ?_
    refine r_aload_n dX8_number_36 rfl ?_
    refine r_get0 dX8_number_37 kF8_26 (sh_o hS kk7 (by decide)) ?_
    refine r_invS_i dX8_number_40 (by decide) kXn8_29 kM8_29 (by decide) (Nat.le_of_ble_eq_true rfl) rfl rfl (Nat.le_of_ble_eq_true rfl) (Nat.le_of_ble_eq_true rfl) (c_at (by omega) (sh_r hS kk8 (by decide)) ⟨_, rfl, ?_⟩)
    refine r_invS_i dX8_number_43 (by decide) kXn8_44 kM8_44 (by decide) (Nat.le_of_ble_eq_true rfl) rfl rfl (Nat.le_of_ble_eq_true rfl) (Nat.le_of_ble_eq_true rfl) (c_isDigit (by omega) hS ⟨_, rfl, ?_⟩)
    refine r_if_eq dX8_number_46 rfl (fun c12 => ?_) (fun c12 => ?_)
    · refine r_iload_n dX8_number_97 rfl ?_
      exact r_iret dX8_number_98 rfl ((h.2 c11).1 c12)
    · refine r_iload_n dX8_number_49 rfl ?_
      refine r_iload_n dX8_number_50 rfl ?_
      refine r_icmp_ne dX8_number_51 rfl (fun c13 => ?_) (fun c13 => ?_)
      · refine r_iload_n dX8_number_61 rfl ?_
        refine r_bipush dX8_number_62 (by decide) ?_
        refine r_imul dX8_number_64 ?_
        refine r_aload_n dX8_number_65 rfl ?_
        refine r_getS (v := 8) dX8_number_66 kF8_9 (sh_o hS kk7 (by decide)) (sh_f hS rr7_0 (by decide)) ?_
        refine r_aload_n dX8_number_69 rfl ?_
        refine r_get0 dX8_number_70 kF8_26 (sh_o hS kk7 (by decide)) ?_
        refine r_invS_i dX8_number_73 (by decide) kXn8_29 kM8_29 (by decide) (Nat.le_of_ble_eq_true rfl) rfl rfl (Nat.le_of_ble_eq_true rfl) (Nat.le_of_ble_eq_true rfl) (c_at (by omega) (sh_r hS kk8 (by decide)) ⟨_, rfl, ?_⟩)
        refine r_iadd dX8_number_76 ?_
        refine r_bipush dX8_number_77 (by decide) ?_
        refine r_isub dX8_number_79 ?_
        have K20 : ∀ v14 : Int, v14 = (w32 ((w32 ((w32 (l2 * (10 : Int))) + (atv M 240 8 (iv M 7 2)))) - (48 : Int))) → Run (e + 1) mX8_number 80 [some (vR 7), some (vI n), some (vI l2), some (vI l3)] [vI v14] M Q := by
          intro v14 hv19
          refine r_istore_n (ls2 := [some (vR 7), some (vI n), some (vI v14), some (vI l3)]) dX8_number_80 (Nat.le_of_ble_eq_true rfl) rfl ?_
          refine r_aload_n dX8_number_81 rfl ?_
          refine r_dupR dX8_number_82 ?_
          refine r_get0 dX8_number_83 kF8_26 (sh_o hS kk7 (by decide)) ?_
          refine r_iconst dX8_number_86 (by decide) ?_
          refine r_iadd dX8_number_87 ?_
          refine r_put0 dX8_number_88 kF8_26 (sh_o hS kk7 (by decide)) (Or.inl rfl) ?_
          have K22 : ∀ N15 : jM, N15 = (si M 7 2 (w32 ((iv M 7 2) + (1 : Int)))) → Run (e + 1) mX8_number 91 [some (vR 7), some (vI n), some (vI v14), some (vI l3)] [] N15 Q := by
            intro N15 hN21
            have sN16 : Shp N15 := by rw [hN21]; exact hS
            refine r_iinc (ls2 := [some (vR 7), some (vI n), some (vI v14), some (vI (w32 (l3 + (1 : Int))))]) dX8_number_91 rfl rfl ?_
            refine r_goto (tgt := 21) dX8_number_94 rfl ?_
            exact (((((h.2 c11).2 c12).1 c13) v14 hv19) N15 hN21 sN16)
          exact K22 _ rfl
        exact K20 _ rfl
      · refine r_aload_n dX8_number_54 rfl ?_
        refine r_invV_i dX8_number_55 kM8_47 (by decide) (Nat.le_of_ble_eq_true rfl) rfl rfl (Nat.le_of_ble_eq_true rfl) (Nat.le_of_ble_eq_true rfl) (sh_o hS kk7 (by decide)) (c_fail (by omega) hS ⟨_, rfl, ?_⟩)
        have K24 : ∀ N17 : jM, N17 = (si M 7 3 (iv M 7 2)) → Run (e + 1) mX8_number 58 [some (vR 7), some (vI n), some (vI l2), some (vI l3)] [vI (0 : Int)] N17 Q := by
          intro N17 hN23
          have sN18 : Shp N17 := by rw [hN23]; exact hS
          refine r_popI dX8_number_58 ?_
          refine r_iconst dX8_number_59 (by decide) ?_
          exact r_iret dX8_number_60 rfl ((((h.2 c11).2 c12).2 c13) N17 hN23 sN18)
        exact K24 _ rfl
theorem vk_read {e : Nat} {M : jM} {Q : Option jV → jM → Prop}  (he : 4 ≤ e) (hS : Shp M)
  (h : ∀ N1 : jM, N1 = (si (si M 20 2 0) 20 6 0) → Shp N1 → (∀ N3 : jM, N3 = (si (si N1 7 2 0) 7 3 (-1)) → Shp N3 → (Run (e + 1) mX4_read 13 [some (vR 19), some (vR 7), some (vI (0 : Int))] [] N3 Q))) :
  Call (e + 1) mX4_read [vR 19, vR 7] M Q := by
  show Run (e + 1) mX4_read 0 [some (vR 19), some (vR 7), none] [] M Q
  refine r_aload_n dX4_read_0 rfl ?_
  refine r_getS (v := 20) dX4_read_1 kF4_12 (sh_o hS kk19 (by decide)) (sh_f hS rr19_0 (by decide)) ?_
  refine r_invV_v dX4_read_4 kM4_18 (by decide) (Nat.le_of_ble_eq_true rfl) rfl rfl (Nat.le_of_ble_eq_true rfl) (Nat.le_of_ble_eq_true rfl) (sh_o hS kk20 (by decide)) (c_lclear (by omega) hS ⟨rfl, ?_⟩)
  have K6 : ∀ N1 : jM, N1 = (si (si M 20 2 0) 20 6 0) → Run (e + 1) mX4_read 7 [some (vR 19), some (vR 7), none] [] N1 Q := by
    intro N1 hN5
    have sN2 : Shp N1 := by rw [hN5]; exact hS
    refine r_aload_n dX4_read_7 rfl ?_
    refine r_invV_v dX4_read_8 kM4_21 (by decide) (Nat.le_of_ble_eq_true rfl) rfl rfl (Nat.le_of_ble_eq_true rfl) (Nat.le_of_ble_eq_true rfl) (sh_o sN2 kk7 (by decide)) (c_rewind (by omega) sN2 ⟨rfl, ?_⟩)
    have K8 : ∀ N3 : jM, N3 = (si (si N1 7 2 0) 7 3 (-1)) → Run (e + 1) mX4_read 11 [some (vR 19), some (vR 7), none] [] N3 Q := by
      intro N3 hN7
      have sN4 : Shp N3 := by rw [hN7]; exact sN2
      refine r_iconst dX4_read_11 (by decide) ?_
      refine r_istore_n (ls2 := [some (vR 19), some (vR 7), some (vI (0 : Int))]) dX4_read_12 (Nat.le_of_ble_eq_true rfl) rfl ?_
      exact ((h N1 hN5 sN2) N3 hN7 sN4)
    exact K8 _ rfl
  exact K6 _ rfl
theorem vk_read_13 {e : Nat} {M : jM} {Q : Option jV → jM → Prop} {l2 : Int}  (he : 4 ≤ e) (hS : Shp M)
  (h : (((240 : Int) < l2) → (∀ N10 : jM, N10 = (si M 7 3 (iv M 7 2)) → Shp N10 → (Q (some (vI (0 : Int))) N10))) ∧ (¬ ((240 : Int) < l2) → (Call e mX4_readClause [vR 19, vR 7] M (fun r15 M13 => ∃ z12 : Int, r15 = some (vI z12) ∧ Shp M13 ∧ (((z12 ≠ (0 : Int)) → (Call e mX8_next [vR 7] M13 (fun r21 M19 => ∃ z18 : Int, r21 = some (vI z18) ∧ Shp M19 ∧ (((z18 ≠ (-1 : Int)) → (Call e mX8_take [vR 7, vI (59 : Int)] M19 (fun r27 M25 => ∃ z24 : Int, r27 = some (vI z24) ∧ Shp M25 ∧ (((z24 ≠ (0 : Int)) → (Run (e + 1) mX4_read 13 [some (vR 19), some (vR 7), some (vI (w32 (l2 + (1 : Int))))] [] M25 Q)) ∧ (¬ (z24 ≠ (0 : Int)) → (∀ N30 : jM, N30 = (si M25 7 3 (iv M25 7 2)) → Shp N30 → (Q (some (vI (0 : Int))) N30))))))) ∧ (¬ (z18 ≠ (-1 : Int)) → (Q (some (vI (1 : Int))) M19)))))) ∧ (¬ (z12 ≠ (0 : Int)) → (Q (some (vI (0 : Int))) M13))))))) :
  Run (e + 1) mX4_read 13 [some (vR 19), some (vR 7), some (vI l2)] [] M Q := by
  refine r_iload_n dX4_read_13 rfl ?_
  refine r_sipush dX4_read_14 (by decide) ?_
  refine r_icmp_gt dX4_read_17 rfl (fun c9 => ?_) (fun c9 => ?_)
  · refine r_aload_n dX4_read_60 rfl ?_
    refine r_invV_i dX4_read_61 kM4_38 (by decide) (Nat.le_of_ble_eq_true rfl) rfl rfl (Nat.le_of_ble_eq_true rfl) (Nat.le_of_ble_eq_true rfl) (sh_o hS kk7 (by decide)) (c_fail (by omega) hS ⟨_, rfl, ?_⟩)
    have K33 : ∀ N10 : jM, N10 = (si M 7 3 (iv M 7 2)) → Run (e + 1) mX4_read 64 [some (vR 19), some (vR 7), some (vI l2)] [vI (0 : Int)] N10 Q := by
      intro N10 hN32
      have sN11 : Shp N10 := by rw [hN32]; exact hS
      exact r_zret dX4_read_64 rfl (by decide) ((h.1 c9) N10 hN32 sN11)
    exact K33 _ rfl
  · refine r_aload_n dX4_read_20 rfl ?_
    refine r_aload_n dX4_read_21 rfl ?_
    refine r_invV_i dX4_read_22 kM4_26 (by decide) (Nat.le_of_ble_eq_true rfl) rfl rfl (Nat.le_of_ble_eq_true rfl) (Nat.le_of_ble_eq_true rfl) (sh_o hS kk19 (by decide)) (Call.mono (h.2 c9) (Nat.le_refl _) ?_)
    rintro _ M13 ⟨z12, rfl, s16, h14⟩
    refine ⟨_, rfl, ?_⟩
    refine r_if_ne dX4_read_25 rfl (fun c17 => ?_) (fun c17 => ?_)
    · refine r_aload_n dX4_read_30 rfl ?_
      refine r_invV_i dX4_read_31 kM4_30 (by decide) (Nat.le_of_ble_eq_true rfl) rfl rfl (Nat.le_of_ble_eq_true rfl) (Nat.le_of_ble_eq_true rfl) (sh_o s16 kk7 (by decide)) (Call.mono (h14.1 c17) (Nat.le_refl _) ?_)
      rintro _ M19 ⟨z18, rfl, s22, h20⟩
      refine ⟨_, rfl, ?_⟩
      refine r_iconst dX4_read_34 (by decide) ?_
      refine r_icmp_ne dX4_read_35 rfl (fun c23 => ?_) (fun c23 => ?_)
      · refine r_aload_n dX4_read_40 rfl ?_
        refine r_bipush dX4_read_41 (by decide) ?_
        refine r_invV_i dX4_read_43 kM4_34 (by decide) (Nat.le_of_ble_eq_true rfl) rfl rfl (Nat.le_of_ble_eq_true rfl) (Nat.le_of_ble_eq_true rfl) (sh_o s22 kk7 (by decide)) (Call.mono (h20.1 c23) (Nat.le_refl _) ?_)
        rintro _ M25 ⟨z24, rfl, s28, h26⟩
        refine ⟨_, rfl, ?_⟩
        refine r_if_ne dX4_read_46 rfl (fun c29 => ?_) (fun c29 => ?_)
        · refine r_iinc (ls2 := [some (vR 19), some (vR 7), some (vI (w32 (l2 + (1 : Int))))]) dX4_read_54 rfl rfl ?_
          refine r_goto (tgt := 13) dX4_read_57 rfl ?_
          exact (h26.1 c29)
        · refine r_aload_n dX4_read_49 rfl ?_
          refine r_invV_i dX4_read_50 kM4_38 (by decide) (Nat.le_of_ble_eq_true rfl) rfl rfl (Nat.le_of_ble_eq_true rfl) (Nat.le_of_ble_eq_true rfl) (sh_o s28 kk7 (by decide)) (c_fail (by omega) s28 ⟨_, rfl, ?_⟩)
          have K35 : ∀ N30 : jM, N30 = (si M25 7 3 (iv M25 7 2)) → Run (e + 1) mX4_read 53 [some (vR 19), some (vR 7), some (vI l2)] [vI (0 : Int)] N30 Q := by
            intro N30 hN34
            have sN31 : Shp N30 := by rw [hN34]; exact s28
            exact r_zret dX4_read_53 rfl (by decide) ((h26.2 c29) N30 hN34 sN31)
          exact K35 _ rfl
      · refine r_iconst dX4_read_38 (by decide) ?_
        exact r_zret dX4_read_39 rfl (by decide) (h20.2 c23)
    · refine r_iconst dX4_read_28 (by decide) ?_
      exact r_zret dX4_read_29 rfl (by decide) (h14.2 c17)
theorem vk_readClause {e : Nat} {M : jM} {Q : Option jV → jM → Prop}  (he : 4 ≤ e) (hS : Shp M)
  (h : Call e mX8_take [vR 7, vI (121 : Int)] M (fun r4 M2 => ∃ z1 : Int, r4 = some (vI z1) ∧ Shp M2 ∧ (((z1 = (0 : Int)) → (∀ N7 : jM, N7 = (si M2 7 3 (iv M2 7 2)) → Shp N7 → (Q (some (vI (0 : Int))) N7))) ∧ (¬ (z1 = (0 : Int)) → (Call e mX8_take [vR 7, vI (58 : Int)] M2 (fun r12 M10 => ∃ z9 : Int, r12 = some (vI z9) ∧ Shp M10 ∧ (((z9 ≠ (0 : Int)) → (∀ N15 : jM, N15 = (ptv (ptv M10 64 23 (iv M10 20 6) (iv M10 20 2)) 64 24 (iv M10 20 6) (iv M10 20 2)) → Shp N15 → (Call e mX8_next [vR 7] N15 (fun r20 M18 => ∃ z17 : Int, r20 = some (vI z17) ∧ Shp M18 ∧ ((((if z17 = (33 : Int) then (0 : Int) else (if z17 = (40 : Int) then (0 : Int) else (1 : Int))) = (0 : Int)) → (Call e mX4_readCondition [vR 19, vR 7, vI (0 : Int), vI (if z17 = (33 : Int) then (0 : Int) else (if z17 = (40 : Int) then (0 : Int) else (1 : Int)))] M18 (fun r26 M24 => ∃ z23 : Int, r26 = some (vI z23) ∧ Shp M24 ∧ (((z23 ≠ (0 : Int)) → (Call e mX8_take [vR 7, vI (63 : Int)] M24 (fun r32 M30 => ∃ z29 : Int, r32 = some (vI z29) ∧ Shp M30 ∧ (((z29 ≠ (0 : Int)) → (∀ N35 : jM, N35 = (ptv M30 64 24 (iv M30 20 6) (iv M30 20 2)) → Shp N35 → (Call e mX4_readSum [vR 19, vR 7, vI (0 : Int)] N35 (fun r40 M38 => ∃ z37 : Int, r40 = some (vI z37) ∧ Shp M38 ∧ (((z37 ≠ (0 : Int)) → (∀ N43 : jM, N43 = (si (ptv M38 64 25 (iv M38 20 6) (iv M38 20 2)) 20 6 (w32 (iv M38 20 6 + 1))) → Shp N43 → (Q (some (vI (1 : Int))) N43))) ∧ (¬ (z37 ≠ (0 : Int)) → (Q (some (vI (0 : Int))) M38))))))) ∧ (¬ (z29 ≠ (0 : Int)) → (∀ N45 : jM, N45 = (si M30 7 3 (iv M30 7 2)) → Shp N45 → (Q (some (vI (0 : Int))) N45))))))) ∧ (¬ (z23 ≠ (0 : Int)) → (Q (some (vI (0 : Int))) M24)))))) ∧ (¬ ((if z17 = (33 : Int) then (0 : Int) else (if z17 = (40 : Int) then (0 : Int) else (1 : Int))) = (0 : Int)) → (Call e mX4_readSum [vR 19, vR 7, vI (0 : Int)] M18 (fun r50 M48 => ∃ z47 : Int, r50 = some (vI z47) ∧ Shp M48 ∧ (((z47 ≠ (0 : Int)) → (Call e mX8_next [vR 7] M48 (fun r56 M54 => ∃ z53 : Int, r56 = some (vI z53) ∧ Shp M54 ∧ ((((fSg z53) ≠ (0 : Int)) → (Call e mX4_readCondition [vR 19, vR 7, vI (0 : Int), vI (if z17 = (33 : Int) then (0 : Int) else (if z17 = (40 : Int) then (0 : Int) else (1 : Int)))] M54 (fun r62 M60 => ∃ z59 : Int, r62 = some (vI z59) ∧ Shp M60 ∧ (((z59 ≠ (0 : Int)) → (Call e mX8_take [vR 7, vI (63 : Int)] M60 (fun r68 M66 => ∃ z65 : Int, r68 = some (vI z65) ∧ Shp M66 ∧ (((z65 ≠ (0 : Int)) → (∀ N71 : jM, N71 = (ptv M66 64 24 (iv M66 20 6) (iv M66 20 2)) → Shp N71 → (Call e mX4_readSum [vR 19, vR 7, vI (0 : Int)] N71 (fun r76 M74 => ∃ z73 : Int, r76 = some (vI z73) ∧ Shp M74 ∧ (((z73 ≠ (0 : Int)) → (∀ N79 : jM, N79 = (si (ptv M74 64 25 (iv M74 20 6) (iv M74 20 2)) 20 6 (w32 (iv M74 20 6 + 1))) → Shp N79 → (Q (some (vI (1 : Int))) N79))) ∧ (¬ (z73 ≠ (0 : Int)) → (Q (some (vI (0 : Int))) M74))))))) ∧ (¬ (z65 ≠ (0 : Int)) → (∀ N81 : jM, N81 = (si M66 7 3 (iv M66 7 2)) → Shp N81 → (Q (some (vI (0 : Int))) N81))))))) ∧ (¬ (z59 ≠ (0 : Int)) → (Q (some (vI (0 : Int))) M60)))))) ∧ (¬ ((fSg z53) ≠ (0 : Int)) → (∀ N83 : jM, N83 = (si (ptv M54 64 25 (iv M54 20 6) (iv M54 20 2)) 20 6 (w32 (iv M54 20 6 + 1))) → Shp N83 → (Q (some (vI (1 : Int))) N83))))))) ∧ (¬ (z47 ≠ (0 : Int)) → (Q (some (vI (0 : Int))) M48))))))))))) ∧ (¬ (z9 ≠ (0 : Int)) → (∀ N85 : jM, N85 = (si M10 7 3 (iv M10 7 2)) → Shp N85 → (Q (some (vI (0 : Int))) N85)))))))))) :
  Call (e + 1) mX4_readClause [vR 19, vR 7] M Q := by
  show Run (e + 1) mX4_readClause 0 [some (vR 19), some (vR 7), none, none] [] M Q
  refine r_aload_n dX4_readClause_0 rfl ?_
  refine r_bipush dX4_readClause_1 (by decide) ?_
  refine r_invV_i dX4_readClause_3 kM4_34 (by decide) (Nat.le_of_ble_eq_true rfl) rfl rfl (Nat.le_of_ble_eq_true rfl) (Nat.le_of_ble_eq_true rfl) (sh_o hS kk7 (by decide)) (Call.mono h (Nat.le_refl _) ?_)
  rintro _ M2 ⟨z1, rfl, s5, h3⟩
  refine ⟨_, rfl, ?_⟩
  refine r_if_eq dX4_readClause_6 rfl (fun c6 => ?_) (fun c6 => ?_)
  · refine r_aload_n dX4_readClause_18 rfl ?_
    refine r_invV_i dX4_readClause_19 kM4_38 (by decide) (Nat.le_of_ble_eq_true rfl) rfl rfl (Nat.le_of_ble_eq_true rfl) (Nat.le_of_ble_eq_true rfl) (sh_o s5 kk7 (by decide)) (c_fail (by omega) s5 ⟨_, rfl, ?_⟩)
    have K88 : ∀ N7 : jM, N7 = (si M2 7 3 (iv M2 7 2)) → Run (e + 1) mX4_readClause 22 [some (vR 19), some (vR 7), none, none] [vI (0 : Int)] N7 Q := by
      intro N7 hN87
      have sN8 : Shp N7 := by rw [hN87]; exact s5
      exact r_zret dX4_readClause_22 rfl (by decide) ((h3.1 c6) N7 hN87 sN8)
    exact K88 _ rfl
  · refine r_aload_n dX4_readClause_9 rfl ?_
    refine r_bipush dX4_readClause_10 (by decide) ?_
    refine r_invV_i dX4_readClause_12 kM4_34 (by decide) (Nat.le_of_ble_eq_true rfl) rfl rfl (Nat.le_of_ble_eq_true rfl) (Nat.le_of_ble_eq_true rfl) (sh_o s5 kk7 (by decide)) (Call.mono (h3.2 c6) (Nat.le_refl _) ?_)
    rintro _ M10 ⟨z9, rfl, s13, h11⟩
    refine ⟨_, rfl, ?_⟩
    refine r_if_ne dX4_readClause_15 rfl (fun c14 => ?_) (fun c14 => ?_)
    · refine r_aload_n dX4_readClause_23 rfl ?_
      refine r_getS (v := 20) dX4_readClause_24 kF4_12 (sh_o s13 kk19 (by decide)) (sh_f s13 rr19_0 (by decide)) ?_
      refine r_invV_v dX4_readClause_27 kM4_42 (by decide) (Nat.le_of_ble_eq_true rfl) rfl rfl (Nat.le_of_ble_eq_true rfl) (Nat.le_of_ble_eq_true rfl) (sh_o s13 kk20 (by decide)) (c_begC (by omega) s13 ⟨rfl, ?_⟩)
      have K90 : ∀ N15 : jM, N15 = (ptv (ptv M10 64 23 (iv M10 20 6) (iv M10 20 2)) 64 24 (iv M10 20 6) (iv M10 20 2)) → Run (e + 1) mX4_readClause 30 [some (vR 19), some (vR 7), none, none] [] N15 Q := by
        intro N15 hN89
        have sN16 : Shp N15 := by rw [hN89]; exact s13
        refine r_aload_n dX4_readClause_30 rfl ?_
        refine r_invV_i dX4_readClause_31 kM4_30 (by decide) (Nat.le_of_ble_eq_true rfl) rfl rfl (Nat.le_of_ble_eq_true rfl) (Nat.le_of_ble_eq_true rfl) (sh_o sN16 kk7 (by decide)) (Call.mono ((h11.1 c14) N15 hN89 sN16) (Nat.le_refl _) ?_)
        rintro _ M18 ⟨z17, rfl, s21, h19⟩
        refine ⟨_, rfl, ?_⟩
        refine r_istore_n (ls2 := [some (vR 19), some (vR 7), some (vI z17), none]) dX4_readClause_34 (Nat.le_of_ble_eq_true rfl) rfl ?_
        refine r_iload_n dX4_readClause_35 rfl ?_
        refine r_bipush dX4_readClause_36 (by decide) ?_
        have K91 : Run (e + 1) mX4_readClause 52 [some (vR 19), some (vR 7), some (vI z17), none] [vI (if z17 = (33 : Int) then (0 : Int) else (if z17 = (40 : Int) then (0 : Int) else (1 : Int)))] M18 Q := by
          refine r_istore_n (ls2 := [some (vR 19), some (vR 7), some (vI z17), some (vI (if z17 = (33 : Int) then (0 : Int) else (if z17 = (40 : Int) then (0 : Int) else (1 : Int))))]) dX4_readClause_52 (Nat.le_of_ble_eq_true rfl) rfl ?_
          refine r_iload_n dX4_readClause_53 rfl ?_
          refine r_if_eq dX4_readClause_54 rfl (fun c22 => ?_) (fun c22 => ?_)
          · refine r_aload_n dX4_readClause_87 rfl ?_
            refine r_aload_n dX4_readClause_88 rfl ?_
            refine r_iconst dX4_readClause_89 (by decide) ?_
            refine r_iload_n dX4_readClause_90 rfl ?_
            refine r_invV_i dX4_readClause_91 kM4_55 (by decide) (Nat.le_of_ble_eq_true rfl) rfl rfl (Nat.le_of_ble_eq_true rfl) (Nat.le_of_ble_eq_true rfl) (sh_o s21 kk19 (by decide)) (Call.mono (h19.1 c22) (Nat.le_refl _) ?_)
            rintro _ M24 ⟨z23, rfl, s27, h25⟩
            refine ⟨_, rfl, ?_⟩
            refine r_if_ne dX4_readClause_94 rfl (fun c28 => ?_) (fun c28 => ?_)
            · refine r_aload_n dX4_readClause_99 rfl ?_
              refine r_bipush dX4_readClause_100 (by decide) ?_
              refine r_invV_i dX4_readClause_102 kM4_34 (by decide) (Nat.le_of_ble_eq_true rfl) rfl rfl (Nat.le_of_ble_eq_true rfl) (Nat.le_of_ble_eq_true rfl) (sh_o s27 kk7 (by decide)) (Call.mono (h25.1 c28) (Nat.le_refl _) ?_)
              rintro _ M30 ⟨z29, rfl, s33, h31⟩
              refine ⟨_, rfl, ?_⟩
              refine r_if_ne dX4_readClause_105 rfl (fun c34 => ?_) (fun c34 => ?_)
              · refine r_aload_n dX4_readClause_113 rfl ?_
                refine r_getS (v := 20) dX4_readClause_114 kF4_12 (sh_o s33 kk19 (by decide)) (sh_f s33 rr19_0 (by decide)) ?_
                refine r_invV_v dX4_readClause_117 kM4_59 (by decide) (Nat.le_of_ble_eq_true rfl) rfl rfl (Nat.le_of_ble_eq_true rfl) (Nat.le_of_ble_eq_true rfl) (sh_o s33 kk20 (by decide)) (c_begS (by omega) s33 ⟨rfl, ?_⟩)
                have K93 : ∀ N35 : jM, N35 = (ptv M30 64 24 (iv M30 20 6) (iv M30 20 2)) → Run (e + 1) mX4_readClause 120 [some (vR 19), some (vR 7), some (vI z17), some (vI (if z17 = (33 : Int) then (0 : Int) else (if z17 = (40 : Int) then (0 : Int) else (1 : Int))))] [] N35 Q := by
                  intro N35 hN92
                  have sN36 : Shp N35 := by rw [hN92]; exact s33
                  refine r_aload_n dX4_readClause_120 rfl ?_
                  refine r_aload_n dX4_readClause_121 rfl ?_
                  refine r_iconst dX4_readClause_122 (by decide) ?_
                  refine r_invV_i dX4_readClause_123 kM4_45 (by decide) (Nat.le_of_ble_eq_true rfl) rfl rfl (Nat.le_of_ble_eq_true rfl) (Nat.le_of_ble_eq_true rfl) (sh_o sN36 kk19 (by decide)) (Call.mono ((h31.1 c34) N35 hN92 sN36) (Nat.le_refl _) ?_)
                  rintro _ M38 ⟨z37, rfl, s41, h39⟩
                  refine ⟨_, rfl, ?_⟩
                  refine r_if_ne dX4_readClause_126 rfl (fun c42 => ?_) (fun c42 => ?_)
                  · refine r_aload_n dX4_readClause_131 rfl ?_
                    refine r_getS (v := 20) dX4_readClause_132 kF4_12 (sh_o s41 kk19 (by decide)) (sh_f s41 rr19_0 (by decide)) ?_
                    refine r_invV_v dX4_readClause_135 kM4_52 (by decide) (Nat.le_of_ble_eq_true rfl) rfl rfl (Nat.le_of_ble_eq_true rfl) (Nat.le_of_ble_eq_true rfl) (sh_o s41 kk20 (by decide)) (c_endC (by omega) s41 ⟨rfl, ?_⟩)
                    have K95 : ∀ N43 : jM, N43 = (si (ptv M38 64 25 (iv M38 20 6) (iv M38 20 2)) 20 6 (w32 (iv M38 20 6 + 1))) → Run (e + 1) mX4_readClause 138 [some (vR 19), some (vR 7), some (vI z17), some (vI (if z17 = (33 : Int) then (0 : Int) else (if z17 = (40 : Int) then (0 : Int) else (1 : Int))))] [] N43 Q := by
                      intro N43 hN94
                      have sN44 : Shp N43 := by rw [hN94]; exact s41
                      refine r_iconst dX4_readClause_138 (by decide) ?_
                      exact r_zret dX4_readClause_139 rfl (by decide) ((h39.1 c42) N43 hN94 sN44)
                    exact K95 _ rfl
                  · refine r_iconst dX4_readClause_129 (by decide) ?_
                    exact r_zret dX4_readClause_130 rfl (by decide) (h39.2 c42)
                exact K93 _ rfl
              · refine r_aload_n dX4_readClause_108 rfl ?_
                refine r_invV_i dX4_readClause_109 kM4_38 (by decide) (Nat.le_of_ble_eq_true rfl) rfl rfl (Nat.le_of_ble_eq_true rfl) (Nat.le_of_ble_eq_true rfl) (sh_o s33 kk7 (by decide)) (c_fail (by omega) s33 ⟨_, rfl, ?_⟩)
                have K97 : ∀ N45 : jM, N45 = (si M30 7 3 (iv M30 7 2)) → Run (e + 1) mX4_readClause 112 [some (vR 19), some (vR 7), some (vI z17), some (vI (if z17 = (33 : Int) then (0 : Int) else (if z17 = (40 : Int) then (0 : Int) else (1 : Int))))] [vI (0 : Int)] N45 Q := by
                  intro N45 hN96
                  have sN46 : Shp N45 := by rw [hN96]; exact s33
                  exact r_zret dX4_readClause_112 rfl (by decide) ((h31.2 c34) N45 hN96 sN46)
                exact K97 _ rfl
            · refine r_iconst dX4_readClause_97 (by decide) ?_
              exact r_zret dX4_readClause_98 rfl (by decide) (h25.2 c28)
          · refine r_aload_n dX4_readClause_57 rfl ?_
            refine r_aload_n dX4_readClause_58 rfl ?_
            refine r_iconst dX4_readClause_59 (by decide) ?_
            refine r_invV_i dX4_readClause_60 kM4_45 (by decide) (Nat.le_of_ble_eq_true rfl) rfl rfl (Nat.le_of_ble_eq_true rfl) (Nat.le_of_ble_eq_true rfl) (sh_o s21 kk19 (by decide)) (Call.mono (h19.2 c22) (Nat.le_refl _) ?_)
            rintro _ M48 ⟨z47, rfl, s51, h49⟩
            refine ⟨_, rfl, ?_⟩
            refine r_if_ne dX4_readClause_63 rfl (fun c52 => ?_) (fun c52 => ?_)
            · refine r_aload_n dX4_readClause_68 rfl ?_
              refine r_invV_i dX4_readClause_69 kM4_30 (by decide) (Nat.le_of_ble_eq_true rfl) rfl rfl (Nat.le_of_ble_eq_true rfl) (Nat.le_of_ble_eq_true rfl) (sh_o s51 kk7 (by decide)) (Call.mono (h49.1 c52) (Nat.le_refl _) ?_)
              rintro _ M54 ⟨z53, rfl, s57, h55⟩
              refine ⟨_, rfl, ?_⟩
              refine r_invS_i dX4_readClause_72 (by decide) kXn4_49 kM4_49 (by decide) (Nat.le_of_ble_eq_true rfl) rfl rfl (Nat.le_of_ble_eq_true rfl) (Nat.le_of_ble_eq_true rfl) (c_isCmp (by omega) s57 ⟨_, rfl, ?_⟩)
              refine r_if_ne dX4_readClause_75 rfl (fun c58 => ?_) (fun c58 => ?_)
              · refine r_aload_n dX4_readClause_87 rfl ?_
                refine r_aload_n dX4_readClause_88 rfl ?_
                refine r_iconst dX4_readClause_89 (by decide) ?_
                refine r_iload_n dX4_readClause_90 rfl ?_
                refine r_invV_i dX4_readClause_91 kM4_55 (by decide) (Nat.le_of_ble_eq_true rfl) rfl rfl (Nat.le_of_ble_eq_true rfl) (Nat.le_of_ble_eq_true rfl) (sh_o s57 kk19 (by decide)) (Call.mono (h55.1 c58) (Nat.le_refl _) ?_)
                rintro _ M60 ⟨z59, rfl, s63, h61⟩
                refine ⟨_, rfl, ?_⟩
                refine r_if_ne dX4_readClause_94 rfl (fun c64 => ?_) (fun c64 => ?_)
                · refine r_aload_n dX4_readClause_99 rfl ?_
                  refine r_bipush dX4_readClause_100 (by decide) ?_
                  refine r_invV_i dX4_readClause_102 kM4_34 (by decide) (Nat.le_of_ble_eq_true rfl) rfl rfl (Nat.le_of_ble_eq_true rfl) (Nat.le_of_ble_eq_true rfl) (sh_o s63 kk7 (by decide)) (Call.mono (h61.1 c64) (Nat.le_refl _) ?_)
                  rintro _ M66 ⟨z65, rfl, s69, h67⟩
                  refine ⟨_, rfl, ?_⟩
                  refine r_if_ne dX4_readClause_105 rfl (fun c70 => ?_) (fun c70 => ?_)
                  · refine r_aload_n dX4_readClause_113 rfl ?_
                    refine r_getS (v := 20) dX4_readClause_114 kF4_12 (sh_o s69 kk19 (by decide)) (sh_f s69 rr19_0 (by decide)) ?_
                    refine r_invV_v dX4_readClause_117 kM4_59 (by decide) (Nat.le_of_ble_eq_true rfl) rfl rfl (Nat.le_of_ble_eq_true rfl) (Nat.le_of_ble_eq_true rfl) (sh_o s69 kk20 (by decide)) (c_begS (by omega) s69 ⟨rfl, ?_⟩)
                    have K99 : ∀ N71 : jM, N71 = (ptv M66 64 24 (iv M66 20 6) (iv M66 20 2)) → Run (e + 1) mX4_readClause 120 [some (vR 19), some (vR 7), some (vI z17), some (vI (if z17 = (33 : Int) then (0 : Int) else (if z17 = (40 : Int) then (0 : Int) else (1 : Int))))] [] N71 Q := by
                      intro N71 hN98
                      have sN72 : Shp N71 := by rw [hN98]; exact s69
                      refine r_aload_n dX4_readClause_120 rfl ?_
                      refine r_aload_n dX4_readClause_121 rfl ?_
                      refine r_iconst dX4_readClause_122 (by decide) ?_
                      refine r_invV_i dX4_readClause_123 kM4_45 (by decide) (Nat.le_of_ble_eq_true rfl) rfl rfl (Nat.le_of_ble_eq_true rfl) (Nat.le_of_ble_eq_true rfl) (sh_o sN72 kk19 (by decide)) (Call.mono ((h67.1 c70) N71 hN98 sN72) (Nat.le_refl _) ?_)
                      rintro _ M74 ⟨z73, rfl, s77, h75⟩
                      refine ⟨_, rfl, ?_⟩
                      refine r_if_ne dX4_readClause_126 rfl (fun c78 => ?_) (fun c78 => ?_)
                      · refine r_aload_n dX4_readClause_131 rfl ?_
                        refine r_getS (v := 20) dX4_readClause_132 kF4_12 (sh_o s77 kk19 (by decide)) (sh_f s77 rr19_0 (by decide)) ?_
                        refine r_invV_v dX4_readClause_135 kM4_52 (by decide) (Nat.le_of_ble_eq_true rfl) rfl rfl (Nat.le_of_ble_eq_true rfl) (Nat.le_of_ble_eq_true rfl) (sh_o s77 kk20 (by decide)) (c_endC (by omega) s77 ⟨rfl, ?_⟩)
                        have K101 : ∀ N79 : jM, N79 = (si (ptv M74 64 25 (iv M74 20 6) (iv M74 20 2)) 20 6 (w32 (iv M74 20 6 + 1))) → Run (e + 1) mX4_readClause 138 [some (vR 19), some (vR 7), some (vI z17), some (vI (if z17 = (33 : Int) then (0 : Int) else (if z17 = (40 : Int) then (0 : Int) else (1 : Int))))] [] N79 Q := by
                          intro N79 hN100
                          have sN80 : Shp N79 := by rw [hN100]; exact s77
                          refine r_iconst dX4_readClause_138 (by decide) ?_
                          exact r_zret dX4_readClause_139 rfl (by decide) ((h75.1 c78) N79 hN100 sN80)
                        exact K101 _ rfl
                      · refine r_iconst dX4_readClause_129 (by decide) ?_
                        exact r_zret dX4_readClause_130 rfl (by decide) (h75.2 c78)
                    exact K99 _ rfl
                  · refine r_aload_n dX4_readClause_108 rfl ?_
                    refine r_invV_i dX4_readClause_109 kM4_38 (by decide) (Nat.le_of_ble_eq_true rfl) rfl rfl (Nat.le_of_ble_eq_true rfl) (Nat.le_of_ble_eq_true rfl) (sh_o s69 kk7 (by decide)) (c_fail (by omega) s69 ⟨_, rfl, ?_⟩)
                    have K103 : ∀ N81 : jM, N81 = (si M66 7 3 (iv M66 7 2)) → Run (e + 1) mX4_readClause 112 [some (vR 19), some (vR 7), some (vI z17), some (vI (if z17 = (33 : Int) then (0 : Int) else (if z17 = (40 : Int) then (0 : Int) else (1 : Int))))] [vI (0 : Int)] N81 Q := by
                      intro N81 hN102
                      have sN82 : Shp N81 := by rw [hN102]; exact s69
                      exact r_zret dX4_readClause_112 rfl (by decide) ((h67.2 c70) N81 hN102 sN82)
                    exact K103 _ rfl
                · refine r_iconst dX4_readClause_97 (by decide) ?_
                  exact r_zret dX4_readClause_98 rfl (by decide) (h61.2 c64)
              · refine r_aload_n dX4_readClause_78 rfl ?_
                refine r_getS (v := 20) dX4_readClause_79 kF4_12 (sh_o s57 kk19 (by decide)) (sh_f s57 rr19_0 (by decide)) ?_
                refine r_invV_v dX4_readClause_82 kM4_52 (by decide) (Nat.le_of_ble_eq_true rfl) rfl rfl (Nat.le_of_ble_eq_true rfl) (Nat.le_of_ble_eq_true rfl) (sh_o s57 kk20 (by decide)) (c_endC (by omega) s57 ⟨rfl, ?_⟩)
                have K105 : ∀ N83 : jM, N83 = (si (ptv M54 64 25 (iv M54 20 6) (iv M54 20 2)) 20 6 (w32 (iv M54 20 6 + 1))) → Run (e + 1) mX4_readClause 85 [some (vR 19), some (vR 7), some (vI z17), some (vI (if z17 = (33 : Int) then (0 : Int) else (if z17 = (40 : Int) then (0 : Int) else (1 : Int))))] [] N83 Q := by
                  intro N83 hN104
                  have sN84 : Shp N83 := by rw [hN104]; exact s57
                  refine r_iconst dX4_readClause_85 (by decide) ?_
                  exact r_zret dX4_readClause_86 rfl (by decide) ((h55.2 c58) N83 hN104 sN84)
                exact K105 _ rfl
            · refine r_iconst dX4_readClause_66 (by decide) ?_
              exact r_zret dX4_readClause_67 rfl (by decide) (h49.2 c52)
        refine r_icmp_eq dX4_readClause_38 rfl (fun q106 => ?_) (fun q106 => ?_)
        · rw [if_pos q106] at K91
          refine r_iconst dX4_readClause_51 (by decide) ?_
          exact K91
        · rw [if_neg q106] at K91
          refine r_iload_n dX4_readClause_41 rfl ?_
          refine r_bipush dX4_readClause_42 (by decide) ?_
          refine r_icmp_eq dX4_readClause_44 rfl (fun q108 => ?_) (fun q108 => ?_)
          · rw [if_pos q108] at K91
            refine r_iconst dX4_readClause_51 (by decide) ?_
            exact K91
          · rw [if_neg q108] at K91
            refine r_iconst dX4_readClause_47 (by decide) ?_
            refine r_goto (tgt := 52) dX4_readClause_48 rfl ?_
            exact K91
      exact K90 _ rfl
    · refine r_aload_n dX4_readClause_18 rfl ?_
      refine r_invV_i dX4_readClause_19 kM4_38 (by decide) (Nat.le_of_ble_eq_true rfl) rfl rfl (Nat.le_of_ble_eq_true rfl) (Nat.le_of_ble_eq_true rfl) (sh_o s13 kk7 (by decide)) (c_fail (by omega) s13 ⟨_, rfl, ?_⟩)
      have K111 : ∀ N85 : jM, N85 = (si M10 7 3 (iv M10 7 2)) → Run (e + 1) mX4_readClause 22 [some (vR 19), some (vR 7), none, none] [vI (0 : Int)] N85 Q := by
        intro N85 hN110
        have sN86 : Shp N85 := by rw [hN110]; exact s13
        exact r_zret dX4_readClause_22 rfl (by decide) ((h11.2 c14) N85 hN110 sN86)
      exact K111 _ rfl
theorem vk_readCondition {e : Nat} {M : jM} {Q : Option jV → jM → Prop} {dp : Int} {bg : Int} (he : 4 ≤ e) (hS : Shp M)
  (h : Call e mX4_readTruth [vR 19, vR 7, vI dp, vI bg] M (fun r4 M2 => ∃ z1 : Int, r4 = some (vI z1) ∧ Shp M2 ∧ (((z1 ≠ (0 : Int)) → (Run (e + 1) mX4_readCondition 15 [some (vR 19), some (vR 7), some (vI dp), some (vI bg), some (vI (0 : Int))] [] M2 Q)) ∧ (¬ (z1 ≠ (0 : Int)) → (Q (some (vI (0 : Int))) M2))))) :
  Call (e + 1) mX4_readCondition [vR 19, vR 7, vI dp, vI bg] M Q := by
  show Run (e + 1) mX4_readCondition 0 [some (vR 19), some (vR 7), some (vI dp), some (vI bg), none] [] M Q
  refine r_aload_n dX4_readCondition_0 rfl ?_
  refine r_aload_n dX4_readCondition_1 rfl ?_
  refine r_iload_n dX4_readCondition_2 rfl ?_
  refine r_iload_n dX4_readCondition_3 rfl ?_
  refine r_invV_i dX4_readCondition_4 kM4_62 (by decide) (Nat.le_of_ble_eq_true rfl) rfl rfl (Nat.le_of_ble_eq_true rfl) (Nat.le_of_ble_eq_true rfl) (sh_o hS kk19 (by decide)) (Call.mono h (Nat.le_refl _) ?_)
  rintro _ M2 ⟨z1, rfl, s5, h3⟩
  refine ⟨_, rfl, ?_⟩
  refine r_if_ne dX4_readCondition_7 rfl (fun c6 => ?_) (fun c6 => ?_)
  · refine r_iconst dX4_readCondition_12 (by decide) ?_
    refine r_istore (ls2 := [some (vR 19), some (vR 7), some (vI dp), some (vI bg), some (vI (0 : Int))]) dX4_readCondition_13 (Nat.le_of_ble_eq_true rfl) rfl ?_
    exact (h3.1 c6)
  · refine r_iconst dX4_readCondition_10 (by decide) ?_
    exact r_zret dX4_readCondition_11 rfl (by decide) (h3.2 c6)
theorem vk_readCondition_15 {e : Nat} {M : jM} {Q : Option jV → jM → Prop} {dp : Int} {bg : Int} {l4 : Int}  (he : 4 ≤ e) (hS : Shp M)
  (h : (((240 : Int) ≤ l4) → (Q (some (vI (1 : Int))) M)) ∧ (¬ ((240 : Int) ≤ l4) → (Call e mX8_take [vR 7, vI (124 : Int)] M (fun r11 M9 => ∃ z8 : Int, r11 = some (vI z8) ∧ Shp M9 ∧ (((z8 = (0 : Int)) → (Q (some (vI (1 : Int))) M9)) ∧ (¬ (z8 = (0 : Int)) → (Call e mX4_readTruth [vR 19, vR 7, vI dp, vI (0 : Int)] M9 (fun r17 M15 => ∃ z14 : Int, r17 = some (vI z14) ∧ Shp M15 ∧ (((z14 ≠ (0 : Int)) → (∀ N20 : jM, N20 = (si (ptv (ptv M15 240 21 (iv M15 20 2) (124 : Int)) 240 22 (iv M15 20 2) (0 : Int)) 20 2 (w32 (iv M15 20 2 + 1))) → Shp N20 → (Run (e + 1) mX4_readCondition 15 [some (vR 19), some (vR 7), some (vI dp), some (vI bg), some (vI (w32 (l4 + (1 : Int))))] [] N20 Q))) ∧ (¬ (z14 ≠ (0 : Int)) → (Q (some (vI (0 : Int))) M15))))))))))) :
  Run (e + 1) mX4_readCondition 15 [some (vR 19), some (vR 7), some (vI dp), some (vI bg), some (vI l4)] [] M Q := by
  refine r_iload dX4_readCondition_15 rfl ?_
  refine r_sipush dX4_readCondition_17 (by decide) ?_
  refine r_icmp_ge dX4_readCondition_20 rfl (fun c7 => ?_) (fun c7 => ?_)
  · refine r_iconst dX4_readCondition_60 (by decide) ?_
    exact r_zret dX4_readCondition_61 rfl (by decide) (h.1 c7)
  · refine r_aload_n dX4_readCondition_23 rfl ?_
    refine r_bipush dX4_readCondition_24 (by decide) ?_
    refine r_invV_i dX4_readCondition_26 kM4_34 (by decide) (Nat.le_of_ble_eq_true rfl) rfl rfl (Nat.le_of_ble_eq_true rfl) (Nat.le_of_ble_eq_true rfl) (sh_o hS kk7 (by decide)) (Call.mono (h.2 c7) (Nat.le_refl _) ?_)
    rintro _ M9 ⟨z8, rfl, s12, h10⟩
    refine ⟨_, rfl, ?_⟩
    refine r_if_eq dX4_readCondition_29 rfl (fun c13 => ?_) (fun c13 => ?_)
    · refine r_iconst dX4_readCondition_60 (by decide) ?_
      exact r_zret dX4_readCondition_61 rfl (by decide) (h10.1 c13)
    · refine r_aload_n dX4_readCondition_32 rfl ?_
      refine r_aload_n dX4_readCondition_33 rfl ?_
      refine r_iload_n dX4_readCondition_34 rfl ?_
      refine r_iconst dX4_readCondition_35 (by decide) ?_
      refine r_invV_i dX4_readCondition_36 kM4_62 (by decide) (Nat.le_of_ble_eq_true rfl) rfl rfl (Nat.le_of_ble_eq_true rfl) (Nat.le_of_ble_eq_true rfl) (sh_o s12 kk19 (by decide)) (Call.mono (h10.2 c13) (Nat.le_refl _) ?_)
      rintro _ M15 ⟨z14, rfl, s18, h16⟩
      refine ⟨_, rfl, ?_⟩
      refine r_if_ne dX4_readCondition_39 rfl (fun c19 => ?_) (fun c19 => ?_)
      · refine r_aload_n dX4_readCondition_44 rfl ?_
        refine r_getS (v := 20) dX4_readCondition_45 kF4_12 (sh_o s18 kk19 (by decide)) (sh_f s18 rr19_0 (by decide)) ?_
        refine r_bipush dX4_readCondition_48 (by decide) ?_
        refine r_iconst dX4_readCondition_50 (by decide) ?_
        refine r_invV_v dX4_readCondition_51 kM4_65 (by decide) (Nat.le_of_ble_eq_true rfl) rfl rfl (Nat.le_of_ble_eq_true rfl) (Nat.le_of_ble_eq_true rfl) (sh_o s18 kk20 (by decide)) (c_add (by omega) s18 ⟨rfl, ?_⟩)
        have K23 : ∀ N20 : jM, N20 = (si (ptv (ptv M15 240 21 (iv M15 20 2) (124 : Int)) 240 22 (iv M15 20 2) (0 : Int)) 20 2 (w32 (iv M15 20 2 + 1))) → Run (e + 1) mX4_readCondition 54 [some (vR 19), some (vR 7), some (vI dp), some (vI bg), some (vI l4)] [] N20 Q := by
          intro N20 hN22
          have sN21 : Shp N20 := by rw [hN22]; exact s18
          refine r_iinc (ls2 := [some (vR 19), some (vR 7), some (vI dp), some (vI bg), some (vI (w32 (l4 + (1 : Int))))]) dX4_readCondition_54 rfl rfl ?_
          refine r_goto (tgt := 15) dX4_readCondition_57 rfl ?_
          exact ((h16.1 c19) N20 hN22 sN21)
        exact K23 _ rfl
      · refine r_iconst dX4_readCondition_42 (by decide) ?_
        exact r_zret dX4_readCondition_43 rfl (by decide) (h16.2 c19)
theorem vk_readTruth {e : Nat} {M : jM} {Q : Option jV → jM → Prop} {dp : Int} {bg : Int} (he : 4 ≤ e) (hS : Shp M)
  (h : Call e mX4_readUnit [vR 19, vR 7, vI dp, vI bg] M (fun r4 M2 => ∃ z1 : Int, r4 = some (vI z1) ∧ Shp M2 ∧ (((z1 ≠ (0 : Int)) → (Run (e + 1) mX4_readTruth 15 [some (vR 19), some (vR 7), some (vI dp), some (vI bg), some (vI (0 : Int))] [] M2 Q)) ∧ (¬ (z1 ≠ (0 : Int)) → (Q (some (vI (0 : Int))) M2))))) :
  Call (e + 1) mX4_readTruth [vR 19, vR 7, vI dp, vI bg] M Q := by
  show Run (e + 1) mX4_readTruth 0 [some (vR 19), some (vR 7), some (vI dp), some (vI bg), none] [] M Q
  refine r_aload_n dX4_readTruth_0 rfl ?_
  refine r_aload_n dX4_readTruth_1 rfl ?_
  refine r_iload_n dX4_readTruth_2 rfl ?_
  refine r_iload_n dX4_readTruth_3 rfl ?_
  refine r_invV_i dX4_readTruth_4 kM4_69 (by decide) (Nat.le_of_ble_eq_true rfl) rfl rfl (Nat.le_of_ble_eq_true rfl) (Nat.le_of_ble_eq_true rfl) (sh_o hS kk19 (by decide)) (Call.mono h (Nat.le_refl _) ?_)
  rintro _ M2 ⟨z1, rfl, s5, h3⟩
  refine ⟨_, rfl, ?_⟩
  refine r_if_ne dX4_readTruth_7 rfl (fun c6 => ?_) (fun c6 => ?_)
  · refine r_iconst dX4_readTruth_12 (by decide) ?_
    refine r_istore (ls2 := [some (vR 19), some (vR 7), some (vI dp), some (vI bg), some (vI (0 : Int))]) dX4_readTruth_13 (Nat.le_of_ble_eq_true rfl) rfl ?_
    exact (h3.1 c6)
  · refine r_iconst dX4_readTruth_10 (by decide) ?_
    exact r_zret dX4_readTruth_11 rfl (by decide) (h3.2 c6)
theorem vk_readTruth_15 {e : Nat} {M : jM} {Q : Option jV → jM → Prop} {dp : Int} {bg : Int} {l4 : Int}  (he : 4 ≤ e) (hS : Shp M)
  (h : (((240 : Int) ≤ l4) → (Q (some (vI (1 : Int))) M)) ∧ (¬ ((240 : Int) ≤ l4) → (Call e mX8_take [vR 7, vI (38 : Int)] M (fun r11 M9 => ∃ z8 : Int, r11 = some (vI z8) ∧ Shp M9 ∧ (((z8 = (0 : Int)) → (Q (some (vI (1 : Int))) M9)) ∧ (¬ (z8 = (0 : Int)) → (Call e mX4_readUnit [vR 19, vR 7, vI dp, vI (0 : Int)] M9 (fun r17 M15 => ∃ z14 : Int, r17 = some (vI z14) ∧ Shp M15 ∧ (((z14 ≠ (0 : Int)) → (∀ N20 : jM, N20 = (si (ptv (ptv M15 240 21 (iv M15 20 2) (38 : Int)) 240 22 (iv M15 20 2) (0 : Int)) 20 2 (w32 (iv M15 20 2 + 1))) → Shp N20 → (Run (e + 1) mX4_readTruth 15 [some (vR 19), some (vR 7), some (vI dp), some (vI bg), some (vI (w32 (l4 + (1 : Int))))] [] N20 Q))) ∧ (¬ (z14 ≠ (0 : Int)) → (Q (some (vI (0 : Int))) M15))))))))))) :
  Run (e + 1) mX4_readTruth 15 [some (vR 19), some (vR 7), some (vI dp), some (vI bg), some (vI l4)] [] M Q := by
  refine r_iload dX4_readTruth_15 rfl ?_
  refine r_sipush dX4_readTruth_17 (by decide) ?_
  refine r_icmp_ge dX4_readTruth_20 rfl (fun c7 => ?_) (fun c7 => ?_)
  · refine r_iconst dX4_readTruth_60 (by decide) ?_
    exact r_zret dX4_readTruth_61 rfl (by decide) (h.1 c7)
  · refine r_aload_n dX4_readTruth_23 rfl ?_
    refine r_bipush dX4_readTruth_24 (by decide) ?_
    refine r_invV_i dX4_readTruth_26 kM4_34 (by decide) (Nat.le_of_ble_eq_true rfl) rfl rfl (Nat.le_of_ble_eq_true rfl) (Nat.le_of_ble_eq_true rfl) (sh_o hS kk7 (by decide)) (Call.mono (h.2 c7) (Nat.le_refl _) ?_)
    rintro _ M9 ⟨z8, rfl, s12, h10⟩
    refine ⟨_, rfl, ?_⟩
    refine r_if_eq dX4_readTruth_29 rfl (fun c13 => ?_) (fun c13 => ?_)
    · refine r_iconst dX4_readTruth_60 (by decide) ?_
      exact r_zret dX4_readTruth_61 rfl (by decide) (h10.1 c13)
    · refine r_aload_n dX4_readTruth_32 rfl ?_
      refine r_aload_n dX4_readTruth_33 rfl ?_
      refine r_iload_n dX4_readTruth_34 rfl ?_
      refine r_iconst dX4_readTruth_35 (by decide) ?_
      refine r_invV_i dX4_readTruth_36 kM4_69 (by decide) (Nat.le_of_ble_eq_true rfl) rfl rfl (Nat.le_of_ble_eq_true rfl) (Nat.le_of_ble_eq_true rfl) (sh_o s12 kk19 (by decide)) (Call.mono (h10.2 c13) (Nat.le_refl _) ?_)
      rintro _ M15 ⟨z14, rfl, s18, h16⟩
      refine ⟨_, rfl, ?_⟩
      refine r_if_ne dX4_readTruth_39 rfl (fun c19 => ?_) (fun c19 => ?_)
      · refine r_aload_n dX4_readTruth_44 rfl ?_
        refine r_getS (v := 20) dX4_readTruth_45 kF4_12 (sh_o s18 kk19 (by decide)) (sh_f s18 rr19_0 (by decide)) ?_
        refine r_bipush dX4_readTruth_48 (by decide) ?_
        refine r_iconst dX4_readTruth_50 (by decide) ?_
        refine r_invV_v dX4_readTruth_51 kM4_65 (by decide) (Nat.le_of_ble_eq_true rfl) rfl rfl (Nat.le_of_ble_eq_true rfl) (Nat.le_of_ble_eq_true rfl) (sh_o s18 kk20 (by decide)) (c_add (by omega) s18 ⟨rfl, ?_⟩)
        have K23 : ∀ N20 : jM, N20 = (si (ptv (ptv M15 240 21 (iv M15 20 2) (38 : Int)) 240 22 (iv M15 20 2) (0 : Int)) 20 2 (w32 (iv M15 20 2 + 1))) → Run (e + 1) mX4_readTruth 54 [some (vR 19), some (vR 7), some (vI dp), some (vI bg), some (vI l4)] [] N20 Q := by
          intro N20 hN22
          have sN21 : Shp N20 := by rw [hN22]; exact s18
          refine r_iinc (ls2 := [some (vR 19), some (vR 7), some (vI dp), some (vI bg), some (vI (w32 (l4 + (1 : Int))))]) dX4_readTruth_54 rfl rfl ?_
          refine r_goto (tgt := 15) dX4_readTruth_57 rfl ?_
          exact ((h16.1 c19) N20 hN22 sN21)
        exact K23 _ rfl
      · refine r_iconst dX4_readTruth_42 (by decide) ?_
        exact r_zret dX4_readTruth_43 rfl (by decide) (h16.2 c19)
theorem vk_readUnit {e : Nat} {M : jM} {Q : Option jV → jM → Prop} {dp : Int} {bg : Int} (he : 4 ≤ e) (hS : Shp M)
  (h : ((bg ≠ (0 : Int)) → (Call e mX8_next [vR 7] M (fun r5 M3 => ∃ z2 : Int, r5 = some (vI z2) ∧ Shp M3 ∧ ((((fSg z2) ≠ (0 : Int)) → (∀ N8 : jM, N8 = (si M3 7 2 (if iv M3 7 2 < iv M3 7 1 then w32 (iv M3 7 2 + 1) else iv M3 7 2)) → Shp N8 → (Call e mX4_readSum [vR 19, vR 7, vI dp] N8 (fun r13 M11 => ∃ z10 : Int, r13 = some (vI z10) ∧ Shp M11 ∧ (((z10 ≠ (0 : Int)) → (∀ N16 : jM, N16 = (si (ptv (ptv M11 240 21 (iv M11 20 2) z2) 240 22 (iv M11 20 2) (0 : Int)) 20 2 (w32 (iv M11 20 2 + 1))) → Shp N16 → (Q (some (vI (1 : Int))) N16))) ∧ (¬ (z10 ≠ (0 : Int)) → (Q (some (vI (0 : Int))) M11))))))) ∧ (¬ ((fSg z2) ≠ (0 : Int)) → (∀ N18 : jM, N18 = (si M3 7 3 (iv M3 7 2)) → Shp N18 → (Q (some (vI (0 : Int))) N18))))))) ∧ (¬ (bg ≠ (0 : Int)) → (Call e mX8_next [vR 7] M (fun r23 M21 => ∃ z20 : Int, r23 = some (vI z20) ∧ Shp M21 ∧ (((z20 = (33 : Int)) → (Call e mX4_readNested [vR 19, vR 7, vI dp, vI z20] M21 (fun r29 M27 => ∃ z26 : Int, r29 = some (vI z26) ∧ Shp M27 ∧ ((z26 = 0 ∨ z26 = 1) ∧ Q (some (vI z26)) M27)))) ∧ (¬ (z20 = (33 : Int)) → (((z20 ≠ (40 : Int)) → (Call e mX4_readSum [vR 19, vR 7, vI dp] M21 (fun r35 M33 => ∃ z32 : Int, r35 = some (vI z32) ∧ Shp M33 ∧ (((z32 ≠ (0 : Int)) → (Call e mX8_next [vR 7] M33 (fun r41 M39 => ∃ z38 : Int, r41 = some (vI z38) ∧ Shp M39 ∧ ((((fSg z38) ≠ (0 : Int)) → (∀ N44 : jM, N44 = (si M39 7 2 (if iv M39 7 2 < iv M39 7 1 then w32 (iv M39 7 2 + 1) else iv M39 7 2)) → Shp N44 → (Call e mX4_readSum [vR 19, vR 7, vI dp] N44 (fun r49 M47 => ∃ z46 : Int, r49 = some (vI z46) ∧ Shp M47 ∧ (((z46 ≠ (0 : Int)) → (∀ N52 : jM, N52 = (si (ptv (ptv M47 240 21 (iv M47 20 2) z38) 240 22 (iv M47 20 2) (0 : Int)) 20 2 (w32 (iv M47 20 2 + 1))) → Shp N52 → (Q (some (vI (1 : Int))) N52))) ∧ (¬ (z46 ≠ (0 : Int)) → (Q (some (vI (0 : Int))) M47))))))) ∧ (¬ ((fSg z38) ≠ (0 : Int)) → (∀ N54 : jM, N54 = (si M39 7 3 (iv M39 7 2)) → Shp N54 → (Q (some (vI (0 : Int))) N54))))))) ∧ (¬ (z32 ≠ (0 : Int)) → (Q (some (vI (0 : Int))) M33)))))) ∧ (¬ (z20 ≠ (40 : Int)) → (Call e mX4_readNested [vR 19, vR 7, vI dp, vI z20] M21 (fun r59 M57 => ∃ z56 : Int, r59 = some (vI z56) ∧ Shp M57 ∧ ((z56 = 0 ∨ z56 = 1) ∧ Q (some (vI z56)) M57))))))))))) :
  Call (e + 1) mX4_readUnit [vR 19, vR 7, vI dp, vI bg] M Q := by
  show Run (e + 1) mX4_readUnit 0 [some (vR 19), some (vR 7), some (vI dp), some (vI bg), none] [] M Q
  refine r_iload_n dX4_readUnit_0 rfl ?_
  refine r_if_ne dX4_readUnit_1 rfl (fun c1 => ?_) (fun c1 => ?_)
  · refine r_aload_n dX4_readUnit_44 rfl ?_
    refine r_invV_i dX4_readUnit_45 kM4_30 (by decide) (Nat.le_of_ble_eq_true rfl) rfl rfl (Nat.le_of_ble_eq_true rfl) (Nat.le_of_ble_eq_true rfl) (sh_o hS kk7 (by decide)) (Call.mono (h.1 c1) (Nat.le_refl _) ?_)
    rintro _ M3 ⟨z2, rfl, s6, h4⟩
    refine ⟨_, rfl, ?_⟩
    refine r_istore (ls2 := [some (vR 19), some (vR 7), some (vI dp), some (vI bg), some (vI z2)]) dX4_readUnit_48 (Nat.le_of_ble_eq_true rfl) rfl ?_
    refine r_iload dX4_readUnit_50 rfl ?_
    refine r_invS_i dX4_readUnit_52 (by decide) kXn4_49 kM4_49 (by decide) (Nat.le_of_ble_eq_true rfl) rfl rfl (Nat.le_of_ble_eq_true rfl) (Nat.le_of_ble_eq_true rfl) (c_isCmp (by omega) s6 ⟨_, rfl, ?_⟩)
    refine r_if_ne dX4_readUnit_55 rfl (fun c7 => ?_) (fun c7 => ?_)
    · refine r_aload_n dX4_readUnit_63 rfl ?_
      refine r_invV_v dX4_readUnit_64 kM4_76 (by decide) (Nat.le_of_ble_eq_true rfl) rfl rfl (Nat.le_of_ble_eq_true rfl) (Nat.le_of_ble_eq_true rfl) (sh_o s6 kk7 (by decide)) (c_step (by omega) s6 ⟨rfl, ?_⟩)
      have K62 : ∀ N8 : jM, N8 = (si M3 7 2 (if iv M3 7 2 < iv M3 7 1 then w32 (iv M3 7 2 + 1) else iv M3 7 2)) → Run (e + 1) mX4_readUnit 67 [some (vR 19), some (vR 7), some (vI dp), some (vI bg), some (vI z2)] [] N8 Q := by
        intro N8 hN61
        have sN9 : Shp N8 := by rw [hN61]; exact s6
        refine r_aload_n dX4_readUnit_67 rfl ?_
        refine r_aload_n dX4_readUnit_68 rfl ?_
        refine r_iload_n dX4_readUnit_69 rfl ?_
        refine r_invV_i dX4_readUnit_70 kM4_45 (by decide) (Nat.le_of_ble_eq_true rfl) rfl rfl (Nat.le_of_ble_eq_true rfl) (Nat.le_of_ble_eq_true rfl) (sh_o sN9 kk19 (by decide)) (Call.mono ((h4.1 c7) N8 hN61 sN9) (Nat.le_refl _) ?_)
        rintro _ M11 ⟨z10, rfl, s14, h12⟩
        refine ⟨_, rfl, ?_⟩
        refine r_if_ne dX4_readUnit_73 rfl (fun c15 => ?_) (fun c15 => ?_)
        · refine r_aload_n dX4_readUnit_78 rfl ?_
          refine r_getS (v := 20) dX4_readUnit_79 kF4_12 (sh_o s14 kk19 (by decide)) (sh_f s14 rr19_0 (by decide)) ?_
          refine r_iload dX4_readUnit_82 rfl ?_
          refine r_iconst dX4_readUnit_84 (by decide) ?_
          refine r_invV_v dX4_readUnit_85 kM4_65 (by decide) (Nat.le_of_ble_eq_true rfl) rfl rfl (Nat.le_of_ble_eq_true rfl) (Nat.le_of_ble_eq_true rfl) (sh_o s14 kk20 (by decide)) (c_add (by omega) s14 ⟨rfl, ?_⟩)
          have K64 : ∀ N16 : jM, N16 = (si (ptv (ptv M11 240 21 (iv M11 20 2) z2) 240 22 (iv M11 20 2) (0 : Int)) 20 2 (w32 (iv M11 20 2 + 1))) → Run (e + 1) mX4_readUnit 88 [some (vR 19), some (vR 7), some (vI dp), some (vI bg), some (vI z2)] [] N16 Q := by
            intro N16 hN63
            have sN17 : Shp N16 := by rw [hN63]; exact s14
            refine r_iconst dX4_readUnit_88 (by decide) ?_
            exact r_zret dX4_readUnit_89 rfl (by decide) ((h12.1 c15) N16 hN63 sN17)
          exact K64 _ rfl
        · refine r_iconst dX4_readUnit_76 (by decide) ?_
          exact r_zret dX4_readUnit_77 rfl (by decide) (h12.2 c15)
      exact K62 _ rfl
    · refine r_aload_n dX4_readUnit_58 rfl ?_
      refine r_invV_i dX4_readUnit_59 kM4_38 (by decide) (Nat.le_of_ble_eq_true rfl) rfl rfl (Nat.le_of_ble_eq_true rfl) (Nat.le_of_ble_eq_true rfl) (sh_o s6 kk7 (by decide)) (c_fail (by omega) s6 ⟨_, rfl, ?_⟩)
      have K66 : ∀ N18 : jM, N18 = (si M3 7 3 (iv M3 7 2)) → Run (e + 1) mX4_readUnit 62 [some (vR 19), some (vR 7), some (vI dp), some (vI bg), some (vI z2)] [vI (0 : Int)] N18 Q := by
        intro N18 hN65
        have sN19 : Shp N18 := by rw [hN65]; exact s6
        exact r_zret dX4_readUnit_62 rfl (by decide) ((h4.2 c7) N18 hN65 sN19)
      exact K66 _ rfl
  · refine r_aload_n dX4_readUnit_4 rfl ?_
    refine r_invV_i dX4_readUnit_5 kM4_30 (by decide) (Nat.le_of_ble_eq_true rfl) rfl rfl (Nat.le_of_ble_eq_true rfl) (Nat.le_of_ble_eq_true rfl) (sh_o hS kk7 (by decide)) (Call.mono (h.2 c1) (Nat.le_refl _) ?_)
    rintro _ M21 ⟨z20, rfl, s24, h22⟩
    refine ⟨_, rfl, ?_⟩
    refine r_istore (ls2 := [some (vR 19), some (vR 7), some (vI dp), some (vI bg), some (vI z20)]) dX4_readUnit_8 (Nat.le_of_ble_eq_true rfl) rfl ?_
    refine r_iload dX4_readUnit_10 rfl ?_
    refine r_bipush dX4_readUnit_12 (by decide) ?_
    refine r_icmp_eq dX4_readUnit_14 rfl (fun c25 => ?_) (fun c25 => ?_)
    · refine r_aload_n dX4_readUnit_24 rfl ?_
      refine r_aload_n dX4_readUnit_25 rfl ?_
      refine r_iload_n dX4_readUnit_26 rfl ?_
      refine r_iload dX4_readUnit_27 rfl ?_
      refine r_invV_i dX4_readUnit_29 kM4_72 (by decide) (Nat.le_of_ble_eq_true rfl) rfl rfl (Nat.le_of_ble_eq_true rfl) (Nat.le_of_ble_eq_true rfl) (sh_o s24 kk19 (by decide)) (Call.mono (h22.1 c25) (Nat.le_refl _) ?_)
      rintro _ M27 ⟨z26, rfl, s30, h28⟩
      refine ⟨_, rfl, ?_⟩
      exact r_zret dX4_readUnit_32 rfl h28.1 h28.2
    · refine r_iload dX4_readUnit_17 rfl ?_
      refine r_bipush dX4_readUnit_19 (by decide) ?_
      refine r_icmp_ne dX4_readUnit_21 rfl (fun c31 => ?_) (fun c31 => ?_)
      · refine r_aload_n dX4_readUnit_33 rfl ?_
        refine r_aload_n dX4_readUnit_34 rfl ?_
        refine r_iload_n dX4_readUnit_35 rfl ?_
        refine r_invV_i dX4_readUnit_36 kM4_45 (by decide) (Nat.le_of_ble_eq_true rfl) rfl rfl (Nat.le_of_ble_eq_true rfl) (Nat.le_of_ble_eq_true rfl) (sh_o s24 kk19 (by decide)) (Call.mono ((h22.2 c25).1 c31) (Nat.le_refl _) ?_)
        rintro _ M33 ⟨z32, rfl, s36, h34⟩
        refine ⟨_, rfl, ?_⟩
        refine r_if_ne dX4_readUnit_39 rfl (fun c37 => ?_) (fun c37 => ?_)
        · refine r_aload_n dX4_readUnit_44 rfl ?_
          refine r_invV_i dX4_readUnit_45 kM4_30 (by decide) (Nat.le_of_ble_eq_true rfl) rfl rfl (Nat.le_of_ble_eq_true rfl) (Nat.le_of_ble_eq_true rfl) (sh_o s36 kk7 (by decide)) (Call.mono (h34.1 c37) (Nat.le_refl _) ?_)
          rintro _ M39 ⟨z38, rfl, s42, h40⟩
          refine ⟨_, rfl, ?_⟩
          refine r_istore (ls2 := [some (vR 19), some (vR 7), some (vI dp), some (vI bg), some (vI z38)]) dX4_readUnit_48 (Nat.le_of_ble_eq_true rfl) rfl ?_
          refine r_iload dX4_readUnit_50 rfl ?_
          refine r_invS_i dX4_readUnit_52 (by decide) kXn4_49 kM4_49 (by decide) (Nat.le_of_ble_eq_true rfl) rfl rfl (Nat.le_of_ble_eq_true rfl) (Nat.le_of_ble_eq_true rfl) (c_isCmp (by omega) s42 ⟨_, rfl, ?_⟩)
          refine r_if_ne dX4_readUnit_55 rfl (fun c43 => ?_) (fun c43 => ?_)
          · refine r_aload_n dX4_readUnit_63 rfl ?_
            refine r_invV_v dX4_readUnit_64 kM4_76 (by decide) (Nat.le_of_ble_eq_true rfl) rfl rfl (Nat.le_of_ble_eq_true rfl) (Nat.le_of_ble_eq_true rfl) (sh_o s42 kk7 (by decide)) (c_step (by omega) s42 ⟨rfl, ?_⟩)
            have K68 : ∀ N44 : jM, N44 = (si M39 7 2 (if iv M39 7 2 < iv M39 7 1 then w32 (iv M39 7 2 + 1) else iv M39 7 2)) → Run (e + 1) mX4_readUnit 67 [some (vR 19), some (vR 7), some (vI dp), some (vI bg), some (vI z38)] [] N44 Q := by
              intro N44 hN67
              have sN45 : Shp N44 := by rw [hN67]; exact s42
              refine r_aload_n dX4_readUnit_67 rfl ?_
              refine r_aload_n dX4_readUnit_68 rfl ?_
              refine r_iload_n dX4_readUnit_69 rfl ?_
              refine r_invV_i dX4_readUnit_70 kM4_45 (by decide) (Nat.le_of_ble_eq_true rfl) rfl rfl (Nat.le_of_ble_eq_true rfl) (Nat.le_of_ble_eq_true rfl) (sh_o sN45 kk19 (by decide)) (Call.mono ((h40.1 c43) N44 hN67 sN45) (Nat.le_refl _) ?_)
              rintro _ M47 ⟨z46, rfl, s50, h48⟩
              refine ⟨_, rfl, ?_⟩
              refine r_if_ne dX4_readUnit_73 rfl (fun c51 => ?_) (fun c51 => ?_)
              · refine r_aload_n dX4_readUnit_78 rfl ?_
                refine r_getS (v := 20) dX4_readUnit_79 kF4_12 (sh_o s50 kk19 (by decide)) (sh_f s50 rr19_0 (by decide)) ?_
                refine r_iload dX4_readUnit_82 rfl ?_
                refine r_iconst dX4_readUnit_84 (by decide) ?_
                refine r_invV_v dX4_readUnit_85 kM4_65 (by decide) (Nat.le_of_ble_eq_true rfl) rfl rfl (Nat.le_of_ble_eq_true rfl) (Nat.le_of_ble_eq_true rfl) (sh_o s50 kk20 (by decide)) (c_add (by omega) s50 ⟨rfl, ?_⟩)
                have K70 : ∀ N52 : jM, N52 = (si (ptv (ptv M47 240 21 (iv M47 20 2) z38) 240 22 (iv M47 20 2) (0 : Int)) 20 2 (w32 (iv M47 20 2 + 1))) → Run (e + 1) mX4_readUnit 88 [some (vR 19), some (vR 7), some (vI dp), some (vI bg), some (vI z38)] [] N52 Q := by
                  intro N52 hN69
                  have sN53 : Shp N52 := by rw [hN69]; exact s50
                  refine r_iconst dX4_readUnit_88 (by decide) ?_
                  exact r_zret dX4_readUnit_89 rfl (by decide) ((h48.1 c51) N52 hN69 sN53)
                exact K70 _ rfl
              · refine r_iconst dX4_readUnit_76 (by decide) ?_
                exact r_zret dX4_readUnit_77 rfl (by decide) (h48.2 c51)
            exact K68 _ rfl
          · refine r_aload_n dX4_readUnit_58 rfl ?_
            refine r_invV_i dX4_readUnit_59 kM4_38 (by decide) (Nat.le_of_ble_eq_true rfl) rfl rfl (Nat.le_of_ble_eq_true rfl) (Nat.le_of_ble_eq_true rfl) (sh_o s42 kk7 (by decide)) (c_fail (by omega) s42 ⟨_, rfl, ?_⟩)
            have K72 : ∀ N54 : jM, N54 = (si M39 7 3 (iv M39 7 2)) → Run (e + 1) mX4_readUnit 62 [some (vR 19), some (vR 7), some (vI dp), some (vI bg), some (vI z38)] [vI (0 : Int)] N54 Q := by
              intro N54 hN71
              have sN55 : Shp N54 := by rw [hN71]; exact s42
              exact r_zret dX4_readUnit_62 rfl (by decide) ((h40.2 c43) N54 hN71 sN55)
            exact K72 _ rfl
        · refine r_iconst dX4_readUnit_42 (by decide) ?_
          exact r_zret dX4_readUnit_43 rfl (by decide) (h34.2 c37)
      · refine r_aload_n dX4_readUnit_24 rfl ?_
        refine r_aload_n dX4_readUnit_25 rfl ?_
        refine r_iload_n dX4_readUnit_26 rfl ?_
        refine r_iload dX4_readUnit_27 rfl ?_
        refine r_invV_i dX4_readUnit_29 kM4_72 (by decide) (Nat.le_of_ble_eq_true rfl) rfl rfl (Nat.le_of_ble_eq_true rfl) (Nat.le_of_ble_eq_true rfl) (sh_o s24 kk19 (by decide)) (Call.mono ((h22.2 c25).2 c31) (Nat.le_refl _) ?_)
        rintro _ M57 ⟨z56, rfl, s60, h58⟩
        refine ⟨_, rfl, ?_⟩
        exact r_zret dX4_readUnit_32 rfl h58.1 h58.2
theorem vk_readNested {e : Nat} {M : jM} {Q : Option jV → jM → Prop} {dp : Int} {sg : Int} (he : 4 ≤ e) (hS : Shp M)
  (h : ((dp < (6 : Int)) → (∀ N2 : jM, N2 = (si M 7 2 (if iv M 7 2 < iv M 7 1 then w32 (iv M 7 2 + 1) else iv M 7 2)) → Shp N2 → (((sg ≠ (33 : Int)) → (Call e mX4_readCondition [vR 19, vR 7, vI (w32 (dp + (1 : Int))), vI (0 : Int)] N2 (fun r8 M6 => ∃ z5 : Int, r8 = some (vI z5) ∧ Shp M6 ∧ (((z5 ≠ (0 : Int)) → (Call e mX8_take [vR 7, vI (41 : Int)] M6 (fun r14 M12 => ∃ z11 : Int, r14 = some (vI z11) ∧ Shp M12 ∧ (((z11 ≠ (0 : Int)) → (Q (some (vI (1 : Int))) M12)) ∧ (¬ (z11 ≠ (0 : Int)) → (∀ N17 : jM, N17 = (si M12 7 3 (iv M12 7 2)) → Shp N17 → (Q (some (vI (0 : Int))) N17))))))) ∧ (¬ (z5 ≠ (0 : Int)) → (Q (some (vI (0 : Int))) M6)))))) ∧ (¬ (sg ≠ (33 : Int)) → (Call e mX4_readUnit [vR 19, vR 7, vI (w32 (dp + (1 : Int))), vI (0 : Int)] N2 (fun r22 M20 => ∃ z19 : Int, r22 = some (vI z19) ∧ Shp M20 ∧ (((z19 ≠ (0 : Int)) → (∀ N25 : jM, N25 = (si (ptv (ptv M20 240 21 (iv M20 20 2) (33 : Int)) 240 22 (iv M20 20 2) (0 : Int)) 20 2 (w32 (iv M20 20 2 + 1))) → Shp N25 → (Q (some (vI (1 : Int))) N25))) ∧ (¬ (z19 ≠ (0 : Int)) → (Q (some (vI (0 : Int))) M20))))))))) ∧ (¬ (dp < (6 : Int)) → (∀ N27 : jM, N27 = (si M 7 3 (iv M 7 2)) → Shp N27 → (Q (some (vI (0 : Int))) N27)))) :
  Call (e + 1) mX4_readNested [vR 19, vR 7, vI dp, vI sg] M Q := by
  show Run (e + 1) mX4_readNested 0 [some (vR 19), some (vR 7), some (vI dp), some (vI sg)] [] M Q
  refine r_iload_n dX4_readNested_0 rfl ?_
  refine r_bipush dX4_readNested_1 (by decide) ?_
  refine r_icmp_lt dX4_readNested_3 rfl (fun c1 => ?_) (fun c1 => ?_)
  · refine r_aload_n dX4_readNested_11 rfl ?_
    refine r_invV_v dX4_readNested_12 kM4_76 (by decide) (Nat.le_of_ble_eq_true rfl) rfl rfl (Nat.le_of_ble_eq_true rfl) (Nat.le_of_ble_eq_true rfl) (sh_o hS kk7 (by decide)) (c_step (by omega) hS ⟨rfl, ?_⟩)
    have K30 : ∀ N2 : jM, N2 = (si M 7 2 (if iv M 7 2 < iv M 7 1 then w32 (iv M 7 2 + 1) else iv M 7 2)) → Run (e + 1) mX4_readNested 15 [some (vR 19), some (vR 7), some (vI dp), some (vI sg)] [] N2 Q := by
      intro N2 hN29
      have sN3 : Shp N2 := by rw [hN29]; exact hS
      refine r_iload_n dX4_readNested_15 rfl ?_
      refine r_bipush dX4_readNested_16 (by decide) ?_
      refine r_icmp_ne dX4_readNested_18 rfl (fun c4 => ?_) (fun c4 => ?_)
      · refine r_aload_n dX4_readNested_47 rfl ?_
        refine r_aload_n dX4_readNested_48 rfl ?_
        refine r_iload_n dX4_readNested_49 rfl ?_
        refine r_iconst dX4_readNested_50 (by decide) ?_
        refine r_iadd dX4_readNested_51 ?_
        refine r_iconst dX4_readNested_52 (by decide) ?_
        refine r_invV_i dX4_readNested_53 kM4_55 (by decide) (Nat.le_of_ble_eq_true rfl) rfl rfl (Nat.le_of_ble_eq_true rfl) (Nat.le_of_ble_eq_true rfl) (sh_o sN3 kk19 (by decide)) (Call.mono (((h.1 c1) N2 hN29 sN3).1 c4) (Nat.le_refl _) ?_)
        rintro _ M6 ⟨z5, rfl, s9, h7⟩
        refine ⟨_, rfl, ?_⟩
        refine r_if_ne dX4_readNested_56 rfl (fun c10 => ?_) (fun c10 => ?_)
        · refine r_aload_n dX4_readNested_61 rfl ?_
          refine r_bipush dX4_readNested_62 (by decide) ?_
          refine r_invV_i dX4_readNested_64 kM4_34 (by decide) (Nat.le_of_ble_eq_true rfl) rfl rfl (Nat.le_of_ble_eq_true rfl) (Nat.le_of_ble_eq_true rfl) (sh_o s9 kk7 (by decide)) (Call.mono (h7.1 c10) (Nat.le_refl _) ?_)
          rintro _ M12 ⟨z11, rfl, s15, h13⟩
          refine ⟨_, rfl, ?_⟩
          refine r_if_ne dX4_readNested_67 rfl (fun c16 => ?_) (fun c16 => ?_)
          · refine r_iconst dX4_readNested_77 (by decide) ?_
            refine r_goto (tgt := 82) dX4_readNested_78 rfl ?_
            exact r_zret dX4_readNested_82 rfl (by decide) (h13.1 c16)
          · refine r_aload_n dX4_readNested_70 rfl ?_
            refine r_invV_i dX4_readNested_71 kM4_38 (by decide) (Nat.le_of_ble_eq_true rfl) rfl rfl (Nat.le_of_ble_eq_true rfl) (Nat.le_of_ble_eq_true rfl) (sh_o s15 kk7 (by decide)) (c_fail (by omega) s15 ⟨_, rfl, ?_⟩)
            have K32 : ∀ N17 : jM, N17 = (si M12 7 3 (iv M12 7 2)) → Run (e + 1) mX4_readNested 74 [some (vR 19), some (vR 7), some (vI dp), some (vI sg)] [vI (0 : Int)] N17 Q := by
              intro N17 hN31
              have sN18 : Shp N17 := by rw [hN31]; exact s15
              refine r_if_eq dX4_readNested_74 rfl (fun _ => ?_) (fun q => absurd (by decide) q)
              refine r_iconst dX4_readNested_81 (by decide) ?_
              exact r_zret dX4_readNested_82 rfl (by decide) ((h13.2 c16) N17 hN31 sN18)
            exact K32 _ rfl
        · refine r_iconst dX4_readNested_59 (by decide) ?_
          exact r_zret dX4_readNested_60 rfl (by decide) (h7.2 c10)
      · refine r_aload_n dX4_readNested_21 rfl ?_
        refine r_aload_n dX4_readNested_22 rfl ?_
        refine r_iload_n dX4_readNested_23 rfl ?_
        refine r_iconst dX4_readNested_24 (by decide) ?_
        refine r_iadd dX4_readNested_25 ?_
        refine r_iconst dX4_readNested_26 (by decide) ?_
        refine r_invV_i dX4_readNested_27 kM4_69 (by decide) (Nat.le_of_ble_eq_true rfl) rfl rfl (Nat.le_of_ble_eq_true rfl) (Nat.le_of_ble_eq_true rfl) (sh_o sN3 kk19 (by decide)) (Call.mono (((h.1 c1) N2 hN29 sN3).2 c4) (Nat.le_refl _) ?_)
        rintro _ M20 ⟨z19, rfl, s23, h21⟩
        refine ⟨_, rfl, ?_⟩
        refine r_if_ne dX4_readNested_30 rfl (fun c24 => ?_) (fun c24 => ?_)
        · refine r_aload_n dX4_readNested_35 rfl ?_
          refine r_getS (v := 20) dX4_readNested_36 kF4_12 (sh_o s23 kk19 (by decide)) (sh_f s23 rr19_0 (by decide)) ?_
          refine r_bipush dX4_readNested_39 (by decide) ?_
          refine r_iconst dX4_readNested_41 (by decide) ?_
          refine r_invV_v dX4_readNested_42 kM4_65 (by decide) (Nat.le_of_ble_eq_true rfl) rfl rfl (Nat.le_of_ble_eq_true rfl) (Nat.le_of_ble_eq_true rfl) (sh_o s23 kk20 (by decide)) (c_add (by omega) s23 ⟨rfl, ?_⟩)
          have K34 : ∀ N25 : jM, N25 = (si (ptv (ptv M20 240 21 (iv M20 20 2) (33 : Int)) 240 22 (iv M20 20 2) (0 : Int)) 20 2 (w32 (iv M20 20 2 + 1))) → Run (e + 1) mX4_readNested 45 [some (vR 19), some (vR 7), some (vI dp), some (vI sg)] [] N25 Q := by
            intro N25 hN33
            have sN26 : Shp N25 := by rw [hN33]; exact s23
            refine r_iconst dX4_readNested_45 (by decide) ?_
            exact r_zret dX4_readNested_46 rfl (by decide) ((h21.1 c24) N25 hN33 sN26)
          exact K34 _ rfl
        · refine r_iconst dX4_readNested_33 (by decide) ?_
          exact r_zret dX4_readNested_34 rfl (by decide) (h21.2 c24)
    exact K30 _ rfl
  · refine r_aload_n dX4_readNested_6 rfl ?_
    refine r_invV_i dX4_readNested_7 kM4_38 (by decide) (Nat.le_of_ble_eq_true rfl) rfl rfl (Nat.le_of_ble_eq_true rfl) (Nat.le_of_ble_eq_true rfl) (sh_o hS kk7 (by decide)) (c_fail (by omega) hS ⟨_, rfl, ?_⟩)
    have K36 : ∀ N27 : jM, N27 = (si M 7 3 (iv M 7 2)) → Run (e + 1) mX4_readNested 10 [some (vR 19), some (vR 7), some (vI dp), some (vI sg)] [vI (0 : Int)] N27 Q := by
      intro N27 hN35
      have sN28 : Shp N27 := by rw [hN35]; exact hS
      exact r_zret dX4_readNested_10 rfl (by decide) ((h.2 c1) N27 hN35 sN28)
    exact K36 _ rfl
theorem vk_readSum {e : Nat} {M : jM} {Q : Option jV → jM → Prop} {dp : Int} (he : 4 ≤ e) (hS : Shp M)
  (h : Call e mX4_readTerm [vR 19, vR 7, vI dp] M (fun r4 M2 => ∃ z1 : Int, r4 = some (vI z1) ∧ Shp M2 ∧ (((z1 ≠ (0 : Int)) → (Run (e + 1) mX4_readSum 13 [some (vR 19), some (vR 7), some (vI dp), some (vI (0 : Int)), none] [] M2 Q)) ∧ (¬ (z1 ≠ (0 : Int)) → (Q (some (vI (0 : Int))) M2))))) :
  Call (e + 1) mX4_readSum [vR 19, vR 7, vI dp] M Q := by
  show Run (e + 1) mX4_readSum 0 [some (vR 19), some (vR 7), some (vI dp), none, none] [] M Q
  refine r_aload_n dX4_readSum_0 rfl ?_
  refine r_aload_n dX4_readSum_1 rfl ?_
  refine r_iload_n dX4_readSum_2 rfl ?_
  refine r_invV_i dX4_readSum_3 kM4_79 (by decide) (Nat.le_of_ble_eq_true rfl) rfl rfl (Nat.le_of_ble_eq_true rfl) (Nat.le_of_ble_eq_true rfl) (sh_o hS kk19 (by decide)) (Call.mono h (Nat.le_refl _) ?_)
  rintro _ M2 ⟨z1, rfl, s5, h3⟩
  refine ⟨_, rfl, ?_⟩
  refine r_if_ne dX4_readSum_6 rfl (fun c6 => ?_) (fun c6 => ?_)
  · refine r_iconst dX4_readSum_11 (by decide) ?_
    refine r_istore_n (ls2 := [some (vR 19), some (vR 7), some (vI dp), some (vI (0 : Int)), none]) dX4_readSum_12 (Nat.le_of_ble_eq_true rfl) rfl ?_
    exact (h3.1 c6)
  · refine r_iconst dX4_readSum_9 (by decide) ?_
    exact r_zret dX4_readSum_10 rfl (by decide) (h3.2 c6)
theorem vk_readSum_13 {e : Nat} {M : jM} {Q : Option jV → jM → Prop} {dp : Int} {l3 : Int} {l4 : Option jV}  (he : 4 ≤ e) (hS : Shp M)
  (h : (((240 : Int) ≤ l3) → (Q (some (vI (1 : Int))) M)) ∧ (¬ ((240 : Int) ≤ l3) → (Call e mX8_next [vR 7] M (fun r11 M9 => ∃ z8 : Int, r11 = some (vI z8) ∧ Shp M9 ∧ (((z8 = (43 : Int)) → (∀ N14 : jM, N14 = (si M9 7 2 (if iv M9 7 2 < iv M9 7 1 then w32 (iv M9 7 2 + 1) else iv M9 7 2)) → Shp N14 → (Call e mX4_readTerm [vR 19, vR 7, vI dp] N14 (fun r19 M17 => ∃ z16 : Int, r19 = some (vI z16) ∧ Shp M17 ∧ (((z16 ≠ (0 : Int)) → (∀ N22 : jM, N22 = (si (ptv (ptv M17 240 21 (iv M17 20 2) z8) 240 22 (iv M17 20 2) (0 : Int)) 20 2 (w32 (iv M17 20 2 + 1))) → Shp N22 → (Run (e + 1) mX4_readSum 13 [some (vR 19), some (vR 7), some (vI dp), some (vI (w32 (l3 + (1 : Int)))), some (vI z8)] [] N22 Q))) ∧ (¬ (z16 ≠ (0 : Int)) → (Q (some (vI (0 : Int))) M17))))))) ∧ (¬ (z8 = (43 : Int)) → (((z8 = (45 : Int)) → (∀ N25 : jM, N25 = (si M9 7 2 (if iv M9 7 2 < iv M9 7 1 then w32 (iv M9 7 2 + 1) else iv M9 7 2)) → Shp N25 → (Call e mX4_readTerm [vR 19, vR 7, vI dp] N25 (fun r30 M28 => ∃ z27 : Int, r30 = some (vI z27) ∧ Shp M28 ∧ (((z27 ≠ (0 : Int)) → (∀ N33 : jM, N33 = (si (ptv (ptv M28 240 21 (iv M28 20 2) z8) 240 22 (iv M28 20 2) (0 : Int)) 20 2 (w32 (iv M28 20 2 + 1))) → Shp N33 → (Run (e + 1) mX4_readSum 13 [some (vR 19), some (vR 7), some (vI dp), some (vI (w32 (l3 + (1 : Int)))), some (vI z8)] [] N33 Q))) ∧ (¬ (z27 ≠ (0 : Int)) → (Q (some (vI (0 : Int))) M28))))))) ∧ (¬ (z8 = (45 : Int)) → (Q (some (vI (1 : Int))) M9))))))))) :
  Run (e + 1) mX4_readSum 13 [some (vR 19), some (vR 7), some (vI dp), some (vI l3), l4] [] M Q := by
  refine r_iload_n dX4_readSum_13 rfl ?_
  refine r_sipush dX4_readSum_14 (by decide) ?_
  refine r_icmp_ge dX4_readSum_17 rfl (fun c7 => ?_) (fun c7 => ?_)
  · refine r_iconst dX4_readSum_73 (by decide) ?_
    exact r_zret dX4_readSum_74 rfl (by decide) (h.1 c7)
  · refine r_aload_n dX4_readSum_20 rfl ?_
    refine r_invV_i dX4_readSum_21 kM4_30 (by decide) (Nat.le_of_ble_eq_true rfl) rfl rfl (Nat.le_of_ble_eq_true rfl) (Nat.le_of_ble_eq_true rfl) (sh_o hS kk7 (by decide)) (Call.mono (h.2 c7) (Nat.le_refl _) ?_)
    rintro _ M9 ⟨z8, rfl, s12, h10⟩
    refine ⟨_, rfl, ?_⟩
    refine r_istore (ls2 := [some (vR 19), some (vR 7), some (vI dp), some (vI l3), some (vI z8)]) dX4_readSum_24 (Nat.le_of_ble_eq_true rfl) rfl ?_
    refine r_iload dX4_readSum_26 rfl ?_
    refine r_bipush dX4_readSum_28 (by decide) ?_
    refine r_icmp_eq dX4_readSum_30 rfl (fun c13 => ?_) (fun c13 => ?_)
    · refine r_aload_n dX4_readSum_42 rfl ?_
      refine r_invV_v dX4_readSum_43 kM4_76 (by decide) (Nat.le_of_ble_eq_true rfl) rfl rfl (Nat.le_of_ble_eq_true rfl) (Nat.le_of_ble_eq_true rfl) (sh_o s12 kk7 (by decide)) (c_step (by omega) s12 ⟨rfl, ?_⟩)
      have K36 : ∀ N14 : jM, N14 = (si M9 7 2 (if iv M9 7 2 < iv M9 7 1 then w32 (iv M9 7 2 + 1) else iv M9 7 2)) → Run (e + 1) mX4_readSum 46 [some (vR 19), some (vR 7), some (vI dp), some (vI l3), some (vI z8)] [] N14 Q := by
        intro N14 hN35
        have sN15 : Shp N14 := by rw [hN35]; exact s12
        refine r_aload_n dX4_readSum_46 rfl ?_
        refine r_aload_n dX4_readSum_47 rfl ?_
        refine r_iload_n dX4_readSum_48 rfl ?_
        refine r_invV_i dX4_readSum_49 kM4_79 (by decide) (Nat.le_of_ble_eq_true rfl) rfl rfl (Nat.le_of_ble_eq_true rfl) (Nat.le_of_ble_eq_true rfl) (sh_o sN15 kk19 (by decide)) (Call.mono ((h10.1 c13) N14 hN35 sN15) (Nat.le_refl _) ?_)
        rintro _ M17 ⟨z16, rfl, s20, h18⟩
        refine ⟨_, rfl, ?_⟩
        refine r_if_ne dX4_readSum_52 rfl (fun c21 => ?_) (fun c21 => ?_)
        · refine r_aload_n dX4_readSum_57 rfl ?_
          refine r_getS (v := 20) dX4_readSum_58 kF4_12 (sh_o s20 kk19 (by decide)) (sh_f s20 rr19_0 (by decide)) ?_
          refine r_iload dX4_readSum_61 rfl ?_
          refine r_iconst dX4_readSum_63 (by decide) ?_
          refine r_invV_v dX4_readSum_64 kM4_65 (by decide) (Nat.le_of_ble_eq_true rfl) rfl rfl (Nat.le_of_ble_eq_true rfl) (Nat.le_of_ble_eq_true rfl) (sh_o s20 kk20 (by decide)) (c_add (by omega) s20 ⟨rfl, ?_⟩)
          have K38 : ∀ N22 : jM, N22 = (si (ptv (ptv M17 240 21 (iv M17 20 2) z8) 240 22 (iv M17 20 2) (0 : Int)) 20 2 (w32 (iv M17 20 2 + 1))) → Run (e + 1) mX4_readSum 67 [some (vR 19), some (vR 7), some (vI dp), some (vI l3), some (vI z8)] [] N22 Q := by
            intro N22 hN37
            have sN23 : Shp N22 := by rw [hN37]; exact s20
            refine r_iinc (ls2 := [some (vR 19), some (vR 7), some (vI dp), some (vI (w32 (l3 + (1 : Int)))), some (vI z8)]) dX4_readSum_67 rfl rfl ?_
            refine r_goto (tgt := 13) dX4_readSum_70 rfl ?_
            exact ((h18.1 c21) N22 hN37 sN23)
          exact K38 _ rfl
        · refine r_iconst dX4_readSum_55 (by decide) ?_
          exact r_zret dX4_readSum_56 rfl (by decide) (h18.2 c21)
      exact K36 _ rfl
    · refine r_iload dX4_readSum_33 rfl ?_
      refine r_bipush dX4_readSum_35 (by decide) ?_
      refine r_icmp_eq dX4_readSum_37 rfl (fun c24 => ?_) (fun c24 => ?_)
      · refine r_aload_n dX4_readSum_42 rfl ?_
        refine r_invV_v dX4_readSum_43 kM4_76 (by decide) (Nat.le_of_ble_eq_true rfl) rfl rfl (Nat.le_of_ble_eq_true rfl) (Nat.le_of_ble_eq_true rfl) (sh_o s12 kk7 (by decide)) (c_step (by omega) s12 ⟨rfl, ?_⟩)
        have K40 : ∀ N25 : jM, N25 = (si M9 7 2 (if iv M9 7 2 < iv M9 7 1 then w32 (iv M9 7 2 + 1) else iv M9 7 2)) → Run (e + 1) mX4_readSum 46 [some (vR 19), some (vR 7), some (vI dp), some (vI l3), some (vI z8)] [] N25 Q := by
          intro N25 hN39
          have sN26 : Shp N25 := by rw [hN39]; exact s12
          refine r_aload_n dX4_readSum_46 rfl ?_
          refine r_aload_n dX4_readSum_47 rfl ?_
          refine r_iload_n dX4_readSum_48 rfl ?_
          refine r_invV_i dX4_readSum_49 kM4_79 (by decide) (Nat.le_of_ble_eq_true rfl) rfl rfl (Nat.le_of_ble_eq_true rfl) (Nat.le_of_ble_eq_true rfl) (sh_o sN26 kk19 (by decide)) (Call.mono (((h10.2 c13).1 c24) N25 hN39 sN26) (Nat.le_refl _) ?_)
          rintro _ M28 ⟨z27, rfl, s31, h29⟩
          refine ⟨_, rfl, ?_⟩
          refine r_if_ne dX4_readSum_52 rfl (fun c32 => ?_) (fun c32 => ?_)
          · refine r_aload_n dX4_readSum_57 rfl ?_
            refine r_getS (v := 20) dX4_readSum_58 kF4_12 (sh_o s31 kk19 (by decide)) (sh_f s31 rr19_0 (by decide)) ?_
            refine r_iload dX4_readSum_61 rfl ?_
            refine r_iconst dX4_readSum_63 (by decide) ?_
            refine r_invV_v dX4_readSum_64 kM4_65 (by decide) (Nat.le_of_ble_eq_true rfl) rfl rfl (Nat.le_of_ble_eq_true rfl) (Nat.le_of_ble_eq_true rfl) (sh_o s31 kk20 (by decide)) (c_add (by omega) s31 ⟨rfl, ?_⟩)
            have K42 : ∀ N33 : jM, N33 = (si (ptv (ptv M28 240 21 (iv M28 20 2) z8) 240 22 (iv M28 20 2) (0 : Int)) 20 2 (w32 (iv M28 20 2 + 1))) → Run (e + 1) mX4_readSum 67 [some (vR 19), some (vR 7), some (vI dp), some (vI l3), some (vI z8)] [] N33 Q := by
              intro N33 hN41
              have sN34 : Shp N33 := by rw [hN41]; exact s31
              refine r_iinc (ls2 := [some (vR 19), some (vR 7), some (vI dp), some (vI (w32 (l3 + (1 : Int)))), some (vI z8)]) dX4_readSum_67 rfl rfl ?_
              refine r_goto (tgt := 13) dX4_readSum_70 rfl ?_
              exact ((h29.1 c32) N33 hN41 sN34)
            exact K42 _ rfl
          · refine r_iconst dX4_readSum_55 (by decide) ?_
            exact r_zret dX4_readSum_56 rfl (by decide) (h29.2 c32)
        exact K40 _ rfl
      · refine r_iconst dX4_readSum_40 (by decide) ?_
        exact r_zret dX4_readSum_41 rfl (by decide) ((h10.2 c13).2 c24)
theorem vk_readTerm {e : Nat} {M : jM} {Q : Option jV → jM → Prop} {dp : Int} (he : 4 ≤ e) (hS : Shp M)
  (h : Call e mX4_readAtom [vR 19, vR 7, vI dp] M (fun r4 M2 => ∃ z1 : Int, r4 = some (vI z1) ∧ Shp M2 ∧ (((z1 ≠ (0 : Int)) → (Run (e + 1) mX4_readTerm 13 [some (vR 19), some (vR 7), some (vI dp), some (vI (0 : Int)), none] [] M2 Q)) ∧ (¬ (z1 ≠ (0 : Int)) → (Q (some (vI (0 : Int))) M2))))) :
  Call (e + 1) mX4_readTerm [vR 19, vR 7, vI dp] M Q := by
  show Run (e + 1) mX4_readTerm 0 [some (vR 19), some (vR 7), some (vI dp), none, none] [] M Q
  refine r_aload_n dX4_readTerm_0 rfl ?_
  refine r_aload_n dX4_readTerm_1 rfl ?_
  refine r_iload_n dX4_readTerm_2 rfl ?_
  refine r_invV_i dX4_readTerm_3 kM4_82 (by decide) (Nat.le_of_ble_eq_true rfl) rfl rfl (Nat.le_of_ble_eq_true rfl) (Nat.le_of_ble_eq_true rfl) (sh_o hS kk19 (by decide)) (Call.mono h (Nat.le_refl _) ?_)
  rintro _ M2 ⟨z1, rfl, s5, h3⟩
  refine ⟨_, rfl, ?_⟩
  refine r_if_ne dX4_readTerm_6 rfl (fun c6 => ?_) (fun c6 => ?_)
  · refine r_iconst dX4_readTerm_11 (by decide) ?_
    refine r_istore_n (ls2 := [some (vR 19), some (vR 7), some (vI dp), some (vI (0 : Int)), none]) dX4_readTerm_12 (Nat.le_of_ble_eq_true rfl) rfl ?_
    exact (h3.1 c6)
  · refine r_iconst dX4_readTerm_9 (by decide) ?_
    exact r_zret dX4_readTerm_10 rfl (by decide) (h3.2 c6)
theorem vk_readTerm_13 {e : Nat} {M : jM} {Q : Option jV → jM → Prop} {dp : Int} {l3 : Int} {l4 : Option jV}  (he : 4 ≤ e) (hS : Shp M)
  (h : (((240 : Int) ≤ l3) → (Q (some (vI (1 : Int))) M)) ∧ (¬ ((240 : Int) ≤ l3) → (Call e mX8_next [vR 7] M (fun r11 M9 => ∃ z8 : Int, r11 = some (vI z8) ∧ Shp M9 ∧ (((z8 = (42 : Int)) → (∀ N14 : jM, N14 = (si M9 7 2 (if iv M9 7 2 < iv M9 7 1 then w32 (iv M9 7 2 + 1) else iv M9 7 2)) → Shp N14 → (Call e mX4_readAtom [vR 19, vR 7, vI dp] N14 (fun r19 M17 => ∃ z16 : Int, r19 = some (vI z16) ∧ Shp M17 ∧ (((z16 ≠ (0 : Int)) → (∀ N22 : jM, N22 = (si (ptv (ptv M17 240 21 (iv M17 20 2) z8) 240 22 (iv M17 20 2) (0 : Int)) 20 2 (w32 (iv M17 20 2 + 1))) → Shp N22 → (Run (e + 1) mX4_readTerm 13 [some (vR 19), some (vR 7), some (vI dp), some (vI (w32 (l3 + (1 : Int)))), some (vI z8)] [] N22 Q))) ∧ (¬ (z16 ≠ (0 : Int)) → (Q (some (vI (0 : Int))) M17))))))) ∧ (¬ (z8 = (42 : Int)) → (((z8 = (47 : Int)) → (∀ N25 : jM, N25 = (si M9 7 2 (if iv M9 7 2 < iv M9 7 1 then w32 (iv M9 7 2 + 1) else iv M9 7 2)) → Shp N25 → (Call e mX4_readAtom [vR 19, vR 7, vI dp] N25 (fun r30 M28 => ∃ z27 : Int, r30 = some (vI z27) ∧ Shp M28 ∧ (((z27 ≠ (0 : Int)) → (∀ N33 : jM, N33 = (si (ptv (ptv M28 240 21 (iv M28 20 2) z8) 240 22 (iv M28 20 2) (0 : Int)) 20 2 (w32 (iv M28 20 2 + 1))) → Shp N33 → (Run (e + 1) mX4_readTerm 13 [some (vR 19), some (vR 7), some (vI dp), some (vI (w32 (l3 + (1 : Int)))), some (vI z8)] [] N33 Q))) ∧ (¬ (z27 ≠ (0 : Int)) → (Q (some (vI (0 : Int))) M28))))))) ∧ (¬ (z8 = (47 : Int)) → (Q (some (vI (1 : Int))) M9))))))))) :
  Run (e + 1) mX4_readTerm 13 [some (vR 19), some (vR 7), some (vI dp), some (vI l3), l4] [] M Q := by
  refine r_iload_n dX4_readTerm_13 rfl ?_
  refine r_sipush dX4_readTerm_14 (by decide) ?_
  refine r_icmp_ge dX4_readTerm_17 rfl (fun c7 => ?_) (fun c7 => ?_)
  · refine r_iconst dX4_readTerm_73 (by decide) ?_
    exact r_zret dX4_readTerm_74 rfl (by decide) (h.1 c7)
  · refine r_aload_n dX4_readTerm_20 rfl ?_
    refine r_invV_i dX4_readTerm_21 kM4_30 (by decide) (Nat.le_of_ble_eq_true rfl) rfl rfl (Nat.le_of_ble_eq_true rfl) (Nat.le_of_ble_eq_true rfl) (sh_o hS kk7 (by decide)) (Call.mono (h.2 c7) (Nat.le_refl _) ?_)
    rintro _ M9 ⟨z8, rfl, s12, h10⟩
    refine ⟨_, rfl, ?_⟩
    refine r_istore (ls2 := [some (vR 19), some (vR 7), some (vI dp), some (vI l3), some (vI z8)]) dX4_readTerm_24 (Nat.le_of_ble_eq_true rfl) rfl ?_
    refine r_iload dX4_readTerm_26 rfl ?_
    refine r_bipush dX4_readTerm_28 (by decide) ?_
    refine r_icmp_eq dX4_readTerm_30 rfl (fun c13 => ?_) (fun c13 => ?_)
    · refine r_aload_n dX4_readTerm_42 rfl ?_
      refine r_invV_v dX4_readTerm_43 kM4_76 (by decide) (Nat.le_of_ble_eq_true rfl) rfl rfl (Nat.le_of_ble_eq_true rfl) (Nat.le_of_ble_eq_true rfl) (sh_o s12 kk7 (by decide)) (c_step (by omega) s12 ⟨rfl, ?_⟩)
      have K36 : ∀ N14 : jM, N14 = (si M9 7 2 (if iv M9 7 2 < iv M9 7 1 then w32 (iv M9 7 2 + 1) else iv M9 7 2)) → Run (e + 1) mX4_readTerm 46 [some (vR 19), some (vR 7), some (vI dp), some (vI l3), some (vI z8)] [] N14 Q := by
        intro N14 hN35
        have sN15 : Shp N14 := by rw [hN35]; exact s12
        refine r_aload_n dX4_readTerm_46 rfl ?_
        refine r_aload_n dX4_readTerm_47 rfl ?_
        refine r_iload_n dX4_readTerm_48 rfl ?_
        refine r_invV_i dX4_readTerm_49 kM4_82 (by decide) (Nat.le_of_ble_eq_true rfl) rfl rfl (Nat.le_of_ble_eq_true rfl) (Nat.le_of_ble_eq_true rfl) (sh_o sN15 kk19 (by decide)) (Call.mono ((h10.1 c13) N14 hN35 sN15) (Nat.le_refl _) ?_)
        rintro _ M17 ⟨z16, rfl, s20, h18⟩
        refine ⟨_, rfl, ?_⟩
        refine r_if_ne dX4_readTerm_52 rfl (fun c21 => ?_) (fun c21 => ?_)
        · refine r_aload_n dX4_readTerm_57 rfl ?_
          refine r_getS (v := 20) dX4_readTerm_58 kF4_12 (sh_o s20 kk19 (by decide)) (sh_f s20 rr19_0 (by decide)) ?_
          refine r_iload dX4_readTerm_61 rfl ?_
          refine r_iconst dX4_readTerm_63 (by decide) ?_
          refine r_invV_v dX4_readTerm_64 kM4_65 (by decide) (Nat.le_of_ble_eq_true rfl) rfl rfl (Nat.le_of_ble_eq_true rfl) (Nat.le_of_ble_eq_true rfl) (sh_o s20 kk20 (by decide)) (c_add (by omega) s20 ⟨rfl, ?_⟩)
          have K38 : ∀ N22 : jM, N22 = (si (ptv (ptv M17 240 21 (iv M17 20 2) z8) 240 22 (iv M17 20 2) (0 : Int)) 20 2 (w32 (iv M17 20 2 + 1))) → Run (e + 1) mX4_readTerm 67 [some (vR 19), some (vR 7), some (vI dp), some (vI l3), some (vI z8)] [] N22 Q := by
            intro N22 hN37
            have sN23 : Shp N22 := by rw [hN37]; exact s20
            refine r_iinc (ls2 := [some (vR 19), some (vR 7), some (vI dp), some (vI (w32 (l3 + (1 : Int)))), some (vI z8)]) dX4_readTerm_67 rfl rfl ?_
            refine r_goto (tgt := 13) dX4_readTerm_70 rfl ?_
            exact ((h18.1 c21) N22 hN37 sN23)
          exact K38 _ rfl
        · refine r_iconst dX4_readTerm_55 (by decide) ?_
          exact r_zret dX4_readTerm_56 rfl (by decide) (h18.2 c21)
      exact K36 _ rfl
    · refine r_iload dX4_readTerm_33 rfl ?_
      refine r_bipush dX4_readTerm_35 (by decide) ?_
      refine r_icmp_eq dX4_readTerm_37 rfl (fun c24 => ?_) (fun c24 => ?_)
      · refine r_aload_n dX4_readTerm_42 rfl ?_
        refine r_invV_v dX4_readTerm_43 kM4_76 (by decide) (Nat.le_of_ble_eq_true rfl) rfl rfl (Nat.le_of_ble_eq_true rfl) (Nat.le_of_ble_eq_true rfl) (sh_o s12 kk7 (by decide)) (c_step (by omega) s12 ⟨rfl, ?_⟩)
        have K40 : ∀ N25 : jM, N25 = (si M9 7 2 (if iv M9 7 2 < iv M9 7 1 then w32 (iv M9 7 2 + 1) else iv M9 7 2)) → Run (e + 1) mX4_readTerm 46 [some (vR 19), some (vR 7), some (vI dp), some (vI l3), some (vI z8)] [] N25 Q := by
          intro N25 hN39
          have sN26 : Shp N25 := by rw [hN39]; exact s12
          refine r_aload_n dX4_readTerm_46 rfl ?_
          refine r_aload_n dX4_readTerm_47 rfl ?_
          refine r_iload_n dX4_readTerm_48 rfl ?_
          refine r_invV_i dX4_readTerm_49 kM4_82 (by decide) (Nat.le_of_ble_eq_true rfl) rfl rfl (Nat.le_of_ble_eq_true rfl) (Nat.le_of_ble_eq_true rfl) (sh_o sN26 kk19 (by decide)) (Call.mono (((h10.2 c13).1 c24) N25 hN39 sN26) (Nat.le_refl _) ?_)
          rintro _ M28 ⟨z27, rfl, s31, h29⟩
          refine ⟨_, rfl, ?_⟩
          refine r_if_ne dX4_readTerm_52 rfl (fun c32 => ?_) (fun c32 => ?_)
          · refine r_aload_n dX4_readTerm_57 rfl ?_
            refine r_getS (v := 20) dX4_readTerm_58 kF4_12 (sh_o s31 kk19 (by decide)) (sh_f s31 rr19_0 (by decide)) ?_
            refine r_iload dX4_readTerm_61 rfl ?_
            refine r_iconst dX4_readTerm_63 (by decide) ?_
            refine r_invV_v dX4_readTerm_64 kM4_65 (by decide) (Nat.le_of_ble_eq_true rfl) rfl rfl (Nat.le_of_ble_eq_true rfl) (Nat.le_of_ble_eq_true rfl) (sh_o s31 kk20 (by decide)) (c_add (by omega) s31 ⟨rfl, ?_⟩)
            have K42 : ∀ N33 : jM, N33 = (si (ptv (ptv M28 240 21 (iv M28 20 2) z8) 240 22 (iv M28 20 2) (0 : Int)) 20 2 (w32 (iv M28 20 2 + 1))) → Run (e + 1) mX4_readTerm 67 [some (vR 19), some (vR 7), some (vI dp), some (vI l3), some (vI z8)] [] N33 Q := by
              intro N33 hN41
              have sN34 : Shp N33 := by rw [hN41]; exact s31
              refine r_iinc (ls2 := [some (vR 19), some (vR 7), some (vI dp), some (vI (w32 (l3 + (1 : Int)))), some (vI z8)]) dX4_readTerm_67 rfl rfl ?_
              refine r_goto (tgt := 13) dX4_readTerm_70 rfl ?_
              exact ((h29.1 c32) N33 hN41 sN34)
            exact K42 _ rfl
          · refine r_iconst dX4_readTerm_55 (by decide) ?_
            exact r_zret dX4_readTerm_56 rfl (by decide) (h29.2 c32)
        exact K40 _ rfl
      · refine r_iconst dX4_readTerm_40 (by decide) ?_
        exact r_zret dX4_readTerm_41 rfl (by decide) ((h10.2 c13).2 c24)
theorem vk_readAtom {e : Nat} {M : jM} {Q : Option jV → jM → Prop} {dp : Int} (he : 4 ≤ e) (hS : Shp M)
  (h : Call e mX8_next [vR 7] M (fun r4 M2 => ∃ z1 : Int, r4 = some (vI z1) ∧ Shp M2 ∧ (((z1 ≠ (91 : Int)) → ((((fLt z1) = (-1 : Int)) → (Call e mX8_number [vR 7, vI (4 : Int)] M2 (fun r11 M9 => ∃ z8 : Int, r11 = some (vI z8) ∧ Shp M9 ∧ (((z8 ≠ (-1 : Int)) → (∀ N14 : jM, N14 = (si (ptv (ptv M9 240 21 (iv M9 20 2) (110 : Int)) 240 22 (iv M9 20 2) z8) 20 2 (w32 (iv M9 20 2 + 1))) → Shp N14 → (Q (some (vI (1 : Int))) N14))) ∧ (¬ (z8 ≠ (-1 : Int)) → (Q (some (vI (0 : Int))) M9)))))) ∧ (¬ ((fLt z1) = (-1 : Int)) → (∀ N16 : jM, N16 = (si M2 7 2 (if iv M2 7 2 < iv M2 7 1 then w32 (iv M2 7 2 + 1) else iv M2 7 2)) → Shp N16 → (∀ N18 : jM, N18 = (si (ptv (ptv N16 240 21 (iv N16 20 2) (108 : Int)) 240 22 (iv N16 20 2) (fLt z1)) 20 2 (w32 (iv N16 20 2 + 1))) → Shp N18 → (Q (some (vI (1 : Int))) N18)))))) ∧ (¬ (z1 ≠ (91 : Int)) → ((((6 : Int) ≤ dp) → ((((fLt z1) = (-1 : Int)) → (Call e mX8_number [vR 7, vI (4 : Int)] M2 (fun r25 M23 => ∃ z22 : Int, r25 = some (vI z22) ∧ Shp M23 ∧ (((z22 ≠ (-1 : Int)) → (∀ N28 : jM, N28 = (si (ptv (ptv M23 240 21 (iv M23 20 2) (110 : Int)) 240 22 (iv M23 20 2) z22) 20 2 (w32 (iv M23 20 2 + 1))) → Shp N28 → (Q (some (vI (1 : Int))) N28))) ∧ (¬ (z22 ≠ (-1 : Int)) → (Q (some (vI (0 : Int))) M23)))))) ∧ (¬ ((fLt z1) = (-1 : Int)) → (∀ N30 : jM, N30 = (si M2 7 2 (if iv M2 7 2 < iv M2 7 1 then w32 (iv M2 7 2 + 1) else iv M2 7 2)) → Shp N30 → (∀ N32 : jM, N32 = (si (ptv (ptv N30 240 21 (iv N30 20 2) (108 : Int)) 240 22 (iv N30 20 2) (fLt z1)) 20 2 (w32 (iv N30 20 2 + 1))) → Shp N32 → (Q (some (vI (1 : Int))) N32)))))) ∧ (¬ ((6 : Int) ≤ dp) → (∀ N34 : jM, N34 = (si M2 7 2 (if iv M2 7 2 < iv M2 7 1 then w32 (iv M2 7 2 + 1) else iv M2 7 2)) → Shp N34 → (Call e mX4_readSum [vR 19, vR 7, vI (w32 (dp + (1 : Int)))] N34 (fun r39 M37 => ∃ z36 : Int, r39 = some (vI z36) ∧ Shp M37 ∧ (((z36 ≠ (0 : Int)) → (Call e mX8_take [vR 7, vI (93 : Int)] M37 (fun r45 M43 => ∃ z42 : Int, r45 = some (vI z42) ∧ Shp M43 ∧ (((z42 ≠ (0 : Int)) → (Q (some (vI (1 : Int))) M43)) ∧ (¬ (z42 ≠ (0 : Int)) → (∀ N48 : jM, N48 = (si M43 7 3 (iv M43 7 2)) → Shp N48 → (Q (some (vI (0 : Int))) N48))))))) ∧ (¬ (z36 ≠ (0 : Int)) → (Q (some (vI (0 : Int))) M37)))))))))))) :
  Call (e + 1) mX4_readAtom [vR 19, vR 7, vI dp] M Q := by
  show Run (e + 1) mX4_readAtom 0 [some (vR 19), some (vR 7), some (vI dp), none, none, none] [] M Q
  refine r_aload_n dX4_readAtom_0 rfl ?_
  refine r_invV_i dX4_readAtom_1 kM4_30 (by decide) (Nat.le_of_ble_eq_true rfl) rfl rfl (Nat.le_of_ble_eq_true rfl) (Nat.le_of_ble_eq_true rfl) (sh_o hS kk7 (by decide)) (Call.mono h (Nat.le_refl _) ?_)
  rintro _ M2 ⟨z1, rfl, s5, h3⟩
  refine ⟨_, rfl, ?_⟩
  refine r_istore_n (ls2 := [some (vR 19), some (vR 7), some (vI dp), some (vI z1), none, none]) dX4_readAtom_4 (Nat.le_of_ble_eq_true rfl) rfl ?_
  refine r_iload_n dX4_readAtom_5 rfl ?_
  refine r_bipush dX4_readAtom_6 (by decide) ?_
  refine r_icmp_ne dX4_readAtom_8 rfl (fun c6 => ?_) (fun c6 => ?_)
  · refine r_iload_n dX4_readAtom_56 rfl ?_
    refine r_invS_i dX4_readAtom_57 (by decide) kXn4_85 kM4_85 (by decide) (Nat.le_of_ble_eq_true rfl) rfl rfl (Nat.le_of_ble_eq_true rfl) (Nat.le_of_ble_eq_true rfl) (c_letter (by omega) s5 ⟨_, rfl, ?_⟩)
    refine r_istore (ls2 := [some (vR 19), some (vR 7), some (vI dp), some (vI z1), some (vI (fLt z1)), none]) dX4_readAtom_60 (Nat.le_of_ble_eq_true rfl) rfl ?_
    refine r_iload dX4_readAtom_62 rfl ?_
    refine r_iconst dX4_readAtom_64 (by decide) ?_
    refine r_icmp_eq dX4_readAtom_65 rfl (fun c7 => ?_) (fun c7 => ?_)
    · refine r_aload_n dX4_readAtom_85 rfl ?_
      refine r_iconst dX4_readAtom_86 (by decide) ?_
      refine r_invV_i dX4_readAtom_87 kM4_89 (by decide) (Nat.le_of_ble_eq_true rfl) rfl rfl (Nat.le_of_ble_eq_true rfl) (Nat.le_of_ble_eq_true rfl) (sh_o s5 kk7 (by decide)) (Call.mono ((h3.1 c6).1 c7) (Nat.le_refl _) ?_)
      rintro _ M9 ⟨z8, rfl, s12, h10⟩
      refine ⟨_, rfl, ?_⟩
      refine r_istore (ls2 := [some (vR 19), some (vR 7), some (vI dp), some (vI z1), some (vI (fLt z1)), some (vI z8)]) dX4_readAtom_90 (Nat.le_of_ble_eq_true rfl) rfl ?_
      refine r_iload dX4_readAtom_92 rfl ?_
      refine r_iconst dX4_readAtom_94 (by decide) ?_
      refine r_icmp_ne dX4_readAtom_95 rfl (fun c13 => ?_) (fun c13 => ?_)
      · refine r_aload_n dX4_readAtom_100 rfl ?_
        refine r_getS (v := 20) dX4_readAtom_101 kF4_12 (sh_o s12 kk19 (by decide)) (sh_f s12 rr19_0 (by decide)) ?_
        refine r_bipush dX4_readAtom_104 (by decide) ?_
        refine r_iload dX4_readAtom_106 rfl ?_
        refine r_invV_v dX4_readAtom_108 kM4_65 (by decide) (Nat.le_of_ble_eq_true rfl) rfl rfl (Nat.le_of_ble_eq_true rfl) (Nat.le_of_ble_eq_true rfl) (sh_o s12 kk20 (by decide)) (c_add (by omega) s12 ⟨rfl, ?_⟩)
        have K51 : ∀ N14 : jM, N14 = (si (ptv (ptv M9 240 21 (iv M9 20 2) (110 : Int)) 240 22 (iv M9 20 2) z8) 20 2 (w32 (iv M9 20 2 + 1))) → Run (e + 1) mX4_readAtom 111 [some (vR 19), some (vR 7), some (vI dp), some (vI z1), some (vI (fLt z1)), some (vI z8)] [] N14 Q := by
          intro N14 hN50
          have sN15 : Shp N14 := by rw [hN50]; exact s12
          refine r_iconst dX4_readAtom_111 (by decide) ?_
          exact r_zret dX4_readAtom_112 rfl (by decide) ((h10.1 c13) N14 hN50 sN15)
        exact K51 _ rfl
      · refine r_iconst dX4_readAtom_98 (by decide) ?_
        exact r_zret dX4_readAtom_99 rfl (by decide) (h10.2 c13)
    · refine r_aload_n dX4_readAtom_68 rfl ?_
      refine r_invV_v dX4_readAtom_69 kM4_76 (by decide) (Nat.le_of_ble_eq_true rfl) rfl rfl (Nat.le_of_ble_eq_true rfl) (Nat.le_of_ble_eq_true rfl) (sh_o s5 kk7 (by decide)) (c_step (by omega) s5 ⟨rfl, ?_⟩)
      have K53 : ∀ N16 : jM, N16 = (si M2 7 2 (if iv M2 7 2 < iv M2 7 1 then w32 (iv M2 7 2 + 1) else iv M2 7 2)) → Run (e + 1) mX4_readAtom 72 [some (vR 19), some (vR 7), some (vI dp), some (vI z1), some (vI (fLt z1)), none] [] N16 Q := by
        intro N16 hN52
        have sN17 : Shp N16 := by rw [hN52]; exact s5
        refine r_aload_n dX4_readAtom_72 rfl ?_
        refine r_getS (v := 20) dX4_readAtom_73 kF4_12 (sh_o sN17 kk19 (by decide)) (sh_f sN17 rr19_0 (by decide)) ?_
        refine r_bipush dX4_readAtom_76 (by decide) ?_
        refine r_iload dX4_readAtom_78 rfl ?_
        refine r_invV_v dX4_readAtom_80 kM4_65 (by decide) (Nat.le_of_ble_eq_true rfl) rfl rfl (Nat.le_of_ble_eq_true rfl) (Nat.le_of_ble_eq_true rfl) (sh_o sN17 kk20 (by decide)) (c_add (by omega) sN17 ⟨rfl, ?_⟩)
        have K55 : ∀ N18 : jM, N18 = (si (ptv (ptv N16 240 21 (iv N16 20 2) (108 : Int)) 240 22 (iv N16 20 2) (fLt z1)) 20 2 (w32 (iv N16 20 2 + 1))) → Run (e + 1) mX4_readAtom 83 [some (vR 19), some (vR 7), some (vI dp), some (vI z1), some (vI (fLt z1)), none] [] N18 Q := by
          intro N18 hN54
          have sN19 : Shp N18 := by rw [hN54]; exact sN17
          refine r_iconst dX4_readAtom_83 (by decide) ?_
          exact r_zret dX4_readAtom_84 rfl (by decide) ((((h3.1 c6).2 c7) N16 hN52 sN17) N18 hN54 sN19)
        exact K55 _ rfl
      exact K53 _ rfl
  · refine r_iload_n dX4_readAtom_11 rfl ?_
    refine r_bipush dX4_readAtom_12 (by decide) ?_
    refine r_icmp_ge dX4_readAtom_14 rfl (fun c20 => ?_) (fun c20 => ?_)
    · refine r_iload_n dX4_readAtom_56 rfl ?_
      refine r_invS_i dX4_readAtom_57 (by decide) kXn4_85 kM4_85 (by decide) (Nat.le_of_ble_eq_true rfl) rfl rfl (Nat.le_of_ble_eq_true rfl) (Nat.le_of_ble_eq_true rfl) (c_letter (by omega) s5 ⟨_, rfl, ?_⟩)
      refine r_istore (ls2 := [some (vR 19), some (vR 7), some (vI dp), some (vI z1), some (vI (fLt z1)), none]) dX4_readAtom_60 (Nat.le_of_ble_eq_true rfl) rfl ?_
      refine r_iload dX4_readAtom_62 rfl ?_
      refine r_iconst dX4_readAtom_64 (by decide) ?_
      refine r_icmp_eq dX4_readAtom_65 rfl (fun c21 => ?_) (fun c21 => ?_)
      · refine r_aload_n dX4_readAtom_85 rfl ?_
        refine r_iconst dX4_readAtom_86 (by decide) ?_
        refine r_invV_i dX4_readAtom_87 kM4_89 (by decide) (Nat.le_of_ble_eq_true rfl) rfl rfl (Nat.le_of_ble_eq_true rfl) (Nat.le_of_ble_eq_true rfl) (sh_o s5 kk7 (by decide)) (Call.mono (((h3.2 c6).1 c20).1 c21) (Nat.le_refl _) ?_)
        rintro _ M23 ⟨z22, rfl, s26, h24⟩
        refine ⟨_, rfl, ?_⟩
        refine r_istore (ls2 := [some (vR 19), some (vR 7), some (vI dp), some (vI z1), some (vI (fLt z1)), some (vI z22)]) dX4_readAtom_90 (Nat.le_of_ble_eq_true rfl) rfl ?_
        refine r_iload dX4_readAtom_92 rfl ?_
        refine r_iconst dX4_readAtom_94 (by decide) ?_
        refine r_icmp_ne dX4_readAtom_95 rfl (fun c27 => ?_) (fun c27 => ?_)
        · refine r_aload_n dX4_readAtom_100 rfl ?_
          refine r_getS (v := 20) dX4_readAtom_101 kF4_12 (sh_o s26 kk19 (by decide)) (sh_f s26 rr19_0 (by decide)) ?_
          refine r_bipush dX4_readAtom_104 (by decide) ?_
          refine r_iload dX4_readAtom_106 rfl ?_
          refine r_invV_v dX4_readAtom_108 kM4_65 (by decide) (Nat.le_of_ble_eq_true rfl) rfl rfl (Nat.le_of_ble_eq_true rfl) (Nat.le_of_ble_eq_true rfl) (sh_o s26 kk20 (by decide)) (c_add (by omega) s26 ⟨rfl, ?_⟩)
          have K57 : ∀ N28 : jM, N28 = (si (ptv (ptv M23 240 21 (iv M23 20 2) (110 : Int)) 240 22 (iv M23 20 2) z22) 20 2 (w32 (iv M23 20 2 + 1))) → Run (e + 1) mX4_readAtom 111 [some (vR 19), some (vR 7), some (vI dp), some (vI z1), some (vI (fLt z1)), some (vI z22)] [] N28 Q := by
            intro N28 hN56
            have sN29 : Shp N28 := by rw [hN56]; exact s26
            refine r_iconst dX4_readAtom_111 (by decide) ?_
            exact r_zret dX4_readAtom_112 rfl (by decide) ((h24.1 c27) N28 hN56 sN29)
          exact K57 _ rfl
        · refine r_iconst dX4_readAtom_98 (by decide) ?_
          exact r_zret dX4_readAtom_99 rfl (by decide) (h24.2 c27)
      · refine r_aload_n dX4_readAtom_68 rfl ?_
        refine r_invV_v dX4_readAtom_69 kM4_76 (by decide) (Nat.le_of_ble_eq_true rfl) rfl rfl (Nat.le_of_ble_eq_true rfl) (Nat.le_of_ble_eq_true rfl) (sh_o s5 kk7 (by decide)) (c_step (by omega) s5 ⟨rfl, ?_⟩)
        have K59 : ∀ N30 : jM, N30 = (si M2 7 2 (if iv M2 7 2 < iv M2 7 1 then w32 (iv M2 7 2 + 1) else iv M2 7 2)) → Run (e + 1) mX4_readAtom 72 [some (vR 19), some (vR 7), some (vI dp), some (vI z1), some (vI (fLt z1)), none] [] N30 Q := by
          intro N30 hN58
          have sN31 : Shp N30 := by rw [hN58]; exact s5
          refine r_aload_n dX4_readAtom_72 rfl ?_
          refine r_getS (v := 20) dX4_readAtom_73 kF4_12 (sh_o sN31 kk19 (by decide)) (sh_f sN31 rr19_0 (by decide)) ?_
          refine r_bipush dX4_readAtom_76 (by decide) ?_
          refine r_iload dX4_readAtom_78 rfl ?_
          refine r_invV_v dX4_readAtom_80 kM4_65 (by decide) (Nat.le_of_ble_eq_true rfl) rfl rfl (Nat.le_of_ble_eq_true rfl) (Nat.le_of_ble_eq_true rfl) (sh_o sN31 kk20 (by decide)) (c_add (by omega) sN31 ⟨rfl, ?_⟩)
          have K61 : ∀ N32 : jM, N32 = (si (ptv (ptv N30 240 21 (iv N30 20 2) (108 : Int)) 240 22 (iv N30 20 2) (fLt z1)) 20 2 (w32 (iv N30 20 2 + 1))) → Run (e + 1) mX4_readAtom 83 [some (vR 19), some (vR 7), some (vI dp), some (vI z1), some (vI (fLt z1)), none] [] N32 Q := by
            intro N32 hN60
            have sN33 : Shp N32 := by rw [hN60]; exact sN31
            refine r_iconst dX4_readAtom_83 (by decide) ?_
            exact r_zret dX4_readAtom_84 rfl (by decide) (((((h3.2 c6).1 c20).2 c21) N30 hN58 sN31) N32 hN60 sN33)
          exact K61 _ rfl
        exact K59 _ rfl
    · refine r_aload_n dX4_readAtom_17 rfl ?_
      refine r_invV_v dX4_readAtom_18 kM4_76 (by decide) (Nat.le_of_ble_eq_true rfl) rfl rfl (Nat.le_of_ble_eq_true rfl) (Nat.le_of_ble_eq_true rfl) (sh_o s5 kk7 (by decide)) (c_step (by omega) s5 ⟨rfl, ?_⟩)
      have K63 : ∀ N34 : jM, N34 = (si M2 7 2 (if iv M2 7 2 < iv M2 7 1 then w32 (iv M2 7 2 + 1) else iv M2 7 2)) → Run (e + 1) mX4_readAtom 21 [some (vR 19), some (vR 7), some (vI dp), some (vI z1), none, none] [] N34 Q := by
        intro N34 hN62
        have sN35 : Shp N34 := by rw [hN62]; exact s5
        refine r_aload_n dX4_readAtom_21 rfl ?_
        refine r_aload_n dX4_readAtom_22 rfl ?_
        refine r_iload_n dX4_readAtom_23 rfl ?_
        refine r_iconst dX4_readAtom_24 (by decide) ?_
        refine r_iadd dX4_readAtom_25 ?_
        refine r_invV_i dX4_readAtom_26 kM4_45 (by decide) (Nat.le_of_ble_eq_true rfl) rfl rfl (Nat.le_of_ble_eq_true rfl) (Nat.le_of_ble_eq_true rfl) (sh_o sN35 kk19 (by decide)) (Call.mono (((h3.2 c6).2 c20) N34 hN62 sN35) (Nat.le_refl _) ?_)
        rintro _ M37 ⟨z36, rfl, s40, h38⟩
        refine ⟨_, rfl, ?_⟩
        refine r_if_ne dX4_readAtom_29 rfl (fun c41 => ?_) (fun c41 => ?_)
        · refine r_aload_n dX4_readAtom_34 rfl ?_
          refine r_bipush dX4_readAtom_35 (by decide) ?_
          refine r_invV_i dX4_readAtom_37 kM4_34 (by decide) (Nat.le_of_ble_eq_true rfl) rfl rfl (Nat.le_of_ble_eq_true rfl) (Nat.le_of_ble_eq_true rfl) (sh_o s40 kk7 (by decide)) (Call.mono (h38.1 c41) (Nat.le_refl _) ?_)
          rintro _ M43 ⟨z42, rfl, s46, h44⟩
          refine ⟨_, rfl, ?_⟩
          refine r_if_ne dX4_readAtom_40 rfl (fun c47 => ?_) (fun c47 => ?_)
          · refine r_iconst dX4_readAtom_50 (by decide) ?_
            refine r_goto (tgt := 55) dX4_readAtom_51 rfl ?_
            exact r_zret dX4_readAtom_55 rfl (by decide) (h44.1 c47)
          · refine r_aload_n dX4_readAtom_43 rfl ?_
            refine r_invV_i dX4_readAtom_44 kM4_38 (by decide) (Nat.le_of_ble_eq_true rfl) rfl rfl (Nat.le_of_ble_eq_true rfl) (Nat.le_of_ble_eq_true rfl) (sh_o s46 kk7 (by decide)) (c_fail (by omega) s46 ⟨_, rfl, ?_⟩)
            have K65 : ∀ N48 : jM, N48 = (si M43 7 3 (iv M43 7 2)) → Run (e + 1) mX4_readAtom 47 [some (vR 19), some (vR 7), some (vI dp), some (vI z1), none, none] [vI (0 : Int)] N48 Q := by
              intro N48 hN64
              have sN49 : Shp N48 := by rw [hN64]; exact s46
              refine r_if_eq dX4_readAtom_47 rfl (fun _ => ?_) (fun q => absurd (by decide) q)
              refine r_iconst dX4_readAtom_54 (by decide) ?_
              exact r_zret dX4_readAtom_55 rfl (by decide) ((h44.2 c47) N48 hN64 sN49)
            exact K65 _ rfl
        · refine r_iconst dX4_readAtom_32 (by decide) ?_
          exact r_zret dX4_readAtom_33 rfl (by decide) (h38.2 c41)
      exact K63 _ rfl
theorem vj_read {e : Nat} {M : jM} {Q : Option jV → jM → Prop}  (he : 4 ≤ e) (hS : Shp M)
  (h : ∀ N1 : jM, N1 = (si M 9 3 (0 : Int)) → Shp N1 → (∀ N3 : jM, N3 = (si N1 9 7 (0 : Int)) → Shp N3 → (∀ N5 : jM, N5 = (si N3 9 2 (0 : Int)) → Shp N5 → (Call e mX2_layOutUntold [vR 9, vI (0 : Int)] N5 (fun r10 M8 => r10 = none ∧ Shp M8 ∧ (∀ N12 : jM, N12 = (cpr M8 10 11 4) → Shp N12 → (∀ N14 : jM, N14 = (si (si N12 7 2 0) 7 3 (-1)) → Shp N14 → (Run (e + 1) mX2_read 37 [some (vR 9), some (vR 7), some (vI (0 : Int))] [] N14 Q)))))))) :
  Call (e + 1) mX2_read [vR 9, vR 7] M Q := by
  show Run (e + 1) mX2_read 0 [some (vR 9), some (vR 7), none] [] M Q
  refine r_aload_n dX2_read_0 rfl ?_
  refine r_iconst dX2_read_1 (by decide) ?_
  refine r_put0 dX2_read_2 kF2_39 (sh_o hS kk9 (by decide)) (Or.inl rfl) ?_
  have K17 : ∀ N1 : jM, N1 = (si M 9 3 (0 : Int)) → Run (e + 1) mX2_read 5 [some (vR 9), some (vR 7), none] [] N1 Q := by
    intro N1 hN16
    have sN2 : Shp N1 := by rw [hN16]; exact hS
    refine r_aload_n dX2_read_5 rfl ?_
    refine r_iconst dX2_read_6 (by decide) ?_
    refine r_put0 dX2_read_7 kF2_43 (sh_o sN2 kk9 (by decide)) (Or.inl rfl) ?_
    have K19 : ∀ N3 : jM, N3 = (si N1 9 7 (0 : Int)) → Run (e + 1) mX2_read 10 [some (vR 9), some (vR 7), none] [] N3 Q := by
      intro N3 hN18
      have sN4 : Shp N3 := by rw [hN18]; exact sN2
      refine r_aload_n dX2_read_10 rfl ?_
      refine r_iconst dX2_read_11 (by decide) ?_
      refine r_put3 dX2_read_12 kF2_46 (sh_o sN4 kk9 (by decide)) (Or.inl rfl) (by decide) ?_
      have K21 : ∀ N5 : jM, N5 = (si N3 9 2 (0 : Int)) → Run (e + 1) mX2_read 15 [some (vR 9), some (vR 7), none] [] N5 Q := by
        intro N5 hN20
        have sN6 : Shp N5 := by rw [hN20]; exact sN4
        refine r_aload_n dX2_read_15 rfl ?_
        refine r_iconst dX2_read_16 (by decide) ?_
        refine r_invV_v dX2_read_17 kM2_50 (by decide) (Nat.le_of_ble_eq_true rfl) rfl rfl (Nat.le_of_ble_eq_true rfl) (Nat.le_of_ble_eq_true rfl) (sh_o sN6 kk9 (by decide)) (Call.mono (((h N1 hN16 sN2) N3 hN18 sN4) N5 hN20 sN6) (Nat.le_refl _) ?_)
        rintro _ M8 ⟨rfl, s11, h9⟩
        refine ⟨rfl, ?_⟩
        refine r_aload_n dX2_read_20 rfl ?_
        refine r_getS (v := 10) dX2_read_21 kF2_11 (sh_o s11 kk9 (by decide)) (sh_f s11 rr9_0 (by decide)) ?_
        refine r_aload_n dX2_read_24 rfl ?_
        refine r_getS (v := 11) dX2_read_25 kF2_15 (sh_o s11 kk9 (by decide)) (sh_f s11 rr9_1 (by decide)) ?_
        refine r_invS_v dX2_read_28 (by decide) kXn2_54 kM2_54 (by decide) (Nat.le_of_ble_eq_true rfl) rfl rfl (Nat.le_of_ble_eq_true rfl) (Nat.le_of_ble_eq_true rfl) (c_copyRow (by omega) (sh_r s11 kk10 (by decide)) (sh_r s11 kk11 (by decide)) (by decide) (by decide) ⟨rfl, ?_⟩)
        have K23 : ∀ N12 : jM, N12 = (cpr M8 10 11 4) → Run (e + 1) mX2_read 31 [some (vR 9), some (vR 7), none] [] N12 Q := by
          intro N12 hN22
          have sN13 : Shp N12 := by rw [hN22]; exact s11
          refine r_aload_n dX2_read_31 rfl ?_
          refine r_invV_v dX2_read_32 kM2_58 (by decide) (Nat.le_of_ble_eq_true rfl) rfl rfl (Nat.le_of_ble_eq_true rfl) (Nat.le_of_ble_eq_true rfl) (sh_o sN13 kk7 (by decide)) (c_rewind (by omega) sN13 ⟨rfl, ?_⟩)
          have K25 : ∀ N14 : jM, N14 = (si (si N12 7 2 0) 7 3 (-1)) → Run (e + 1) mX2_read 35 [some (vR 9), some (vR 7), none] [] N14 Q := by
            intro N14 hN24
            have sN15 : Shp N14 := by rw [hN24]; exact sN13
            refine r_iconst dX2_read_35 (by decide) ?_
            refine r_istore_n (ls2 := [some (vR 9), some (vR 7), some (vI (0 : Int))]) dX2_read_36 (Nat.le_of_ble_eq_true rfl) rfl ?_
            exact ((h9 N12 hN22 sN13) N14 hN24 sN15)
          exact K25 _ rfl
        exact K23 _ rfl
      exact K21 _ rfl
    exact K19 _ rfl
  exact K17 _ rfl
theorem vj_read_37 {e : Nat} {M : jM} {Q : Option jV → jM → Prop} {l2 : Int}  (he : 4 ≤ e) (hS : Shp M)
  (h : (((240 : Int) < l2) → (∀ N27 : jM, N27 = (si M 7 3 (iv M 7 2)) → Shp N27 → (Q (some (vI (0 : Int))) N27))) ∧ (¬ ((240 : Int) < l2) → (Call e mX2_readClause [vR 9, vR 7] M (fun r32 M30 => ∃ z29 : Int, r32 = some (vI z29) ∧ Shp M30 ∧ (((z29 ≠ (0 : Int)) → (Call e mX8_next [vR 7] M30 (fun r38 M36 => ∃ z35 : Int, r38 = some (vI z35) ∧ Shp M36 ∧ (((z35 ≠ (-1 : Int)) → (Call e mX8_take [vR 7, vI (59 : Int)] M36 (fun r44 M42 => ∃ z41 : Int, r44 = some (vI z41) ∧ Shp M42 ∧ (((z41 ≠ (0 : Int)) → (Run (e + 1) mX2_read 37 [some (vR 9), some (vR 7), some (vI (w32 (l2 + (1 : Int))))] [] M42 Q)) ∧ (¬ (z41 ≠ (0 : Int)) → (∀ N47 : jM, N47 = (si M42 7 3 (iv M42 7 2)) → Shp N47 → (Q (some (vI (0 : Int))) N47))))))) ∧ (¬ (z35 ≠ (-1 : Int)) → (Call e mX2_holdsTogether [vR 9] M36 (fun r52 M50 => ∃ z49 : Int, r52 = some (vI z49) ∧ Shp M50 ∧ (((z49 ≠ (0 : Int)) → (Q (some (vI (1 : Int))) M50)) ∧ (¬ (z49 ≠ (0 : Int)) → (∀ N55 : jM, N55 = (si M50 7 3 (iv M50 7 2)) → Shp N55 → (Q (some (vI (0 : Int))) N55))))))))))) ∧ (¬ (z29 ≠ (0 : Int)) → (Q (some (vI (0 : Int))) M30))))))) :
  Run (e + 1) mX2_read 37 [some (vR 9), some (vR 7), some (vI l2)] [] M Q := by
  refine r_iload_n dX2_read_37 rfl ?_
  refine r_sipush dX2_read_38 (by decide) ?_
  refine r_icmp_gt dX2_read_41 rfl (fun c26 => ?_) (fun c26 => ?_)
  · refine r_aload_n dX2_read_102 rfl ?_
    refine r_invV_i dX2_read_103 kM2_75 (by decide) (Nat.le_of_ble_eq_true rfl) rfl rfl (Nat.le_of_ble_eq_true rfl) (Nat.le_of_ble_eq_true rfl) (sh_o hS kk7 (by decide)) (c_fail (by omega) hS ⟨_, rfl, ?_⟩)
    have K58 : ∀ N27 : jM, N27 = (si M 7 3 (iv M 7 2)) → Run (e + 1) mX2_read 106 [some (vR 9), some (vR 7), some (vI l2)] [vI (0 : Int)] N27 Q := by
      intro N27 hN57
      have sN28 : Shp N27 := by rw [hN57]; exact hS
      exact r_zret dX2_read_106 rfl (by decide) ((h.1 c26) N27 hN57 sN28)
    exact K58 _ rfl
  · refine r_aload_n dX2_read_44 rfl ?_
    refine r_aload_n dX2_read_45 rfl ?_
    refine r_invV_i dX2_read_46 kM2_63 (by decide) (Nat.le_of_ble_eq_true rfl) rfl rfl (Nat.le_of_ble_eq_true rfl) (Nat.le_of_ble_eq_true rfl) (sh_o hS kk9 (by decide)) (Call.mono (h.2 c26) (Nat.le_refl _) ?_)
    rintro _ M30 ⟨z29, rfl, s33, h31⟩
    refine ⟨_, rfl, ?_⟩
    refine r_if_ne dX2_read_49 rfl (fun c34 => ?_) (fun c34 => ?_)
    · refine r_aload_n dX2_read_54 rfl ?_
      refine r_invV_i dX2_read_55 kM2_67 (by decide) (Nat.le_of_ble_eq_true rfl) rfl rfl (Nat.le_of_ble_eq_true rfl) (Nat.le_of_ble_eq_true rfl) (sh_o s33 kk7 (by decide)) (Call.mono (h31.1 c34) (Nat.le_refl _) ?_)
      rintro _ M36 ⟨z35, rfl, s39, h37⟩
      refine ⟨_, rfl, ?_⟩
      refine r_iconst dX2_read_58 (by decide) ?_
      refine r_icmp_ne dX2_read_59 rfl (fun c40 => ?_) (fun c40 => ?_)
      · refine r_aload_n dX2_read_82 rfl ?_
        refine r_bipush dX2_read_83 (by decide) ?_
        refine r_invV_i dX2_read_85 kM2_78 (by decide) (Nat.le_of_ble_eq_true rfl) rfl rfl (Nat.le_of_ble_eq_true rfl) (Nat.le_of_ble_eq_true rfl) (sh_o s39 kk7 (by decide)) (Call.mono (h37.1 c40) (Nat.le_refl _) ?_)
        rintro _ M42 ⟨z41, rfl, s45, h43⟩
        refine ⟨_, rfl, ?_⟩
        refine r_if_ne dX2_read_88 rfl (fun c46 => ?_) (fun c46 => ?_)
        · refine r_iinc (ls2 := [some (vR 9), some (vR 7), some (vI (w32 (l2 + (1 : Int))))]) dX2_read_96 rfl rfl ?_
          refine r_goto (tgt := 37) dX2_read_99 rfl ?_
          exact (h43.1 c46)
        · refine r_aload_n dX2_read_91 rfl ?_
          refine r_invV_i dX2_read_92 kM2_75 (by decide) (Nat.le_of_ble_eq_true rfl) rfl rfl (Nat.le_of_ble_eq_true rfl) (Nat.le_of_ble_eq_true rfl) (sh_o s45 kk7 (by decide)) (c_fail (by omega) s45 ⟨_, rfl, ?_⟩)
          have K60 : ∀ N47 : jM, N47 = (si M42 7 3 (iv M42 7 2)) → Run (e + 1) mX2_read 95 [some (vR 9), some (vR 7), some (vI l2)] [vI (0 : Int)] N47 Q := by
            intro N47 hN59
            have sN48 : Shp N47 := by rw [hN59]; exact s45
            exact r_zret dX2_read_95 rfl (by decide) ((h43.2 c46) N47 hN59 sN48)
          exact K60 _ rfl
      · refine r_aload_n dX2_read_62 rfl ?_
        refine r_invV_i dX2_read_63 kM2_71 (by decide) (Nat.le_of_ble_eq_true rfl) rfl rfl (Nat.le_of_ble_eq_true rfl) (Nat.le_of_ble_eq_true rfl) (sh_o s39 kk9 (by decide)) (Call.mono (h37.2 c40) (Nat.le_refl _) ?_)
        rintro _ M50 ⟨z49, rfl, s53, h51⟩
        refine ⟨_, rfl, ?_⟩
        refine r_if_ne dX2_read_66 rfl (fun c54 => ?_) (fun c54 => ?_)
        · refine r_iconst dX2_read_76 (by decide) ?_
          refine r_goto (tgt := 81) dX2_read_77 rfl ?_
          exact r_zret dX2_read_81 rfl (by decide) (h51.1 c54)
        · refine r_aload_n dX2_read_69 rfl ?_
          refine r_invV_i dX2_read_70 kM2_75 (by decide) (Nat.le_of_ble_eq_true rfl) rfl rfl (Nat.le_of_ble_eq_true rfl) (Nat.le_of_ble_eq_true rfl) (sh_o s53 kk7 (by decide)) (c_fail (by omega) s53 ⟨_, rfl, ?_⟩)
          have K62 : ∀ N55 : jM, N55 = (si M50 7 3 (iv M50 7 2)) → Run (e + 1) mX2_read 73 [some (vR 9), some (vR 7), some (vI l2)] [vI (0 : Int)] N55 Q := by
            intro N55 hN61
            have sN56 : Shp N55 := by rw [hN61]; exact s53
            refine r_if_eq dX2_read_73 rfl (fun _ => ?_) (fun q => absurd (by decide) q)
            refine r_iconst dX2_read_80 (by decide) ?_
            exact r_zret dX2_read_81 rfl (by decide) ((h51.2 c54) N55 hN61 sN56)
          exact K62 _ rfl
    · refine r_iconst dX2_read_52 (by decide) ?_
      exact r_zret dX2_read_53 rfl (by decide) (h31.2 c34)
theorem vj_readClause {e : Nat} {M : jM} {Q : Option jV → jM → Prop}  (he : 4 ≤ e) (hS : Shp M)
  (h : Call e mX8_next [vR 7] M (fun r4 M2 => ∃ z1 : Int, r4 = some (vI z1) ∧ Shp M2 ∧ (Call e mX2_sortThatMayBegin [vR 9, vI z1] M2 (fun r9 M7 => ∃ z6 : Int, r9 = some (vI z6) ∧ Shp M7 ∧ (((z6 ≠ (-1 : Int)) → (∀ N12 : jM, N12 = (si M7 7 2 (if iv M7 7 2 < iv M7 7 1 then w32 (iv M7 7 2 + 1) else iv M7 7 2)) → Shp N12 → (Call e mX2_layOutUntold [vR 9, vI z6] N12 (fun r17 M15 => r17 = none ∧ Shp M15 ∧ (Call e mX2_readItems [vR 9, vR 7, vI z6] M15 (fun r22 M20 => ∃ z19 : Int, r22 = some (vI z19) ∧ Shp M20 ∧ (((z19 ≠ (0 : Int)) → (Call e mX2_keep [vR 9, vI z6] M20 (fun r28 M26 => r28 = none ∧ Shp M26 ∧ (Q (some (vI (1 : Int))) M26)))) ∧ (¬ (z19 ≠ (0 : Int)) → (Q (some (vI (0 : Int))) M20))))))))) ∧ (¬ (z6 ≠ (-1 : Int)) → (∀ N30 : jM, N30 = (si M7 7 3 (iv M7 7 2)) → Shp N30 → (Q (some (vI (0 : Int))) N30)))))))) :
  Call (e + 1) mX2_readClause [vR 9, vR 7] M Q := by
  show Run (e + 1) mX2_readClause 0 [some (vR 9), some (vR 7), none] [] M Q
  refine r_aload_n dX2_readClause_0 rfl ?_
  refine r_aload_n dX2_readClause_1 rfl ?_
  refine r_invV_i dX2_readClause_2 kM2_67 (by decide) (Nat.le_of_ble_eq_true rfl) rfl rfl (Nat.le_of_ble_eq_true rfl) (Nat.le_of_ble_eq_true rfl) (sh_o hS kk7 (by decide)) (Call.mono h (Nat.le_refl _) ?_)
  rintro _ M2 ⟨z1, rfl, s5, h3⟩
  refine ⟨_, rfl, ?_⟩
  refine r_invV_i dX2_readClause_5 kM2_82 (by decide) (Nat.le_of_ble_eq_true rfl) rfl rfl (Nat.le_of_ble_eq_true rfl) (Nat.le_of_ble_eq_true rfl) (sh_o s5 kk9 (by decide)) (Call.mono h3 (Nat.le_refl _) ?_)
  rintro _ M7 ⟨z6, rfl, s10, h8⟩
  refine ⟨_, rfl, ?_⟩
  refine r_istore_n (ls2 := [some (vR 9), some (vR 7), some (vI z6)]) dX2_readClause_8 (Nat.le_of_ble_eq_true rfl) rfl ?_
  refine r_iload_n dX2_readClause_9 rfl ?_
  refine r_iconst dX2_readClause_10 (by decide) ?_
  refine r_icmp_ne dX2_readClause_11 rfl (fun c11 => ?_) (fun c11 => ?_)
  · refine r_aload_n dX2_readClause_19 rfl ?_
    refine r_invV_v dX2_readClause_20 kM2_86 (by decide) (Nat.le_of_ble_eq_true rfl) rfl rfl (Nat.le_of_ble_eq_true rfl) (Nat.le_of_ble_eq_true rfl) (sh_o s10 kk7 (by decide)) (c_step (by omega) s10 ⟨rfl, ?_⟩)
    have K33 : ∀ N12 : jM, N12 = (si M7 7 2 (if iv M7 7 2 < iv M7 7 1 then w32 (iv M7 7 2 + 1) else iv M7 7 2)) → Run (e + 1) mX2_readClause 23 [some (vR 9), some (vR 7), some (vI z6)] [] N12 Q := by
      intro N12 hN32
      have sN13 : Shp N12 := by rw [hN32]; exact s10
      refine r_aload_n dX2_readClause_23 rfl ?_
      refine r_iload_n dX2_readClause_24 rfl ?_
      refine r_invV_v dX2_readClause_25 kM2_50 (by decide) (Nat.le_of_ble_eq_true rfl) rfl rfl (Nat.le_of_ble_eq_true rfl) (Nat.le_of_ble_eq_true rfl) (sh_o sN13 kk9 (by decide)) (Call.mono ((h8.1 c11) N12 hN32 sN13) (Nat.le_refl _) ?_)
      rintro _ M15 ⟨rfl, s18, h16⟩
      refine ⟨rfl, ?_⟩
      refine r_aload_n dX2_readClause_28 rfl ?_
      refine r_aload_n dX2_readClause_29 rfl ?_
      refine r_iload_n dX2_readClause_30 rfl ?_
      refine r_invV_i dX2_readClause_31 kM2_89 (by decide) (Nat.le_of_ble_eq_true rfl) rfl rfl (Nat.le_of_ble_eq_true rfl) (Nat.le_of_ble_eq_true rfl) (sh_o s18 kk9 (by decide)) (Call.mono h16 (Nat.le_refl _) ?_)
      rintro _ M20 ⟨z19, rfl, s23, h21⟩
      refine ⟨_, rfl, ?_⟩
      refine r_if_ne dX2_readClause_34 rfl (fun c24 => ?_) (fun c24 => ?_)
      · refine r_aload_n dX2_readClause_39 rfl ?_
        refine r_iload_n dX2_readClause_40 rfl ?_
        refine r_invV_v dX2_readClause_41 kM2_93 (by decide) (Nat.le_of_ble_eq_true rfl) rfl rfl (Nat.le_of_ble_eq_true rfl) (Nat.le_of_ble_eq_true rfl) (sh_o s23 kk9 (by decide)) (Call.mono (h21.1 c24) (Nat.le_refl _) ?_)
        rintro _ M26 ⟨rfl, s29, h27⟩
        refine ⟨rfl, ?_⟩
        refine r_iconst dX2_readClause_44 (by decide) ?_
        exact r_zret dX2_readClause_45 rfl (by decide) h27
      · refine r_iconst dX2_readClause_37 (by decide) ?_
        exact r_zret dX2_readClause_38 rfl (by decide) (h21.2 c24)
    exact K33 _ rfl
  · refine r_aload_n dX2_readClause_14 rfl ?_
    refine r_invV_i dX2_readClause_15 kM2_75 (by decide) (Nat.le_of_ble_eq_true rfl) rfl rfl (Nat.le_of_ble_eq_true rfl) (Nat.le_of_ble_eq_true rfl) (sh_o s10 kk7 (by decide)) (c_fail (by omega) s10 ⟨_, rfl, ?_⟩)
    have K35 : ∀ N30 : jM, N30 = (si M7 7 3 (iv M7 7 2)) → Run (e + 1) mX2_readClause 18 [some (vR 9), some (vR 7), some (vI z6)] [vI (0 : Int)] N30 Q := by
      intro N30 hN34
      have sN31 : Shp N30 := by rw [hN34]; exact s10
      exact r_zret dX2_readClause_18 rfl (by decide) ((h8.2 c11) N30 hN34 sN31)
    exact K35 _ rfl
theorem vj_sort {e : Nat} {M : jM} {Q : Option jV → jM → Prop} {c : Int} (he : 4 ≤ e) (hS : Shp M)
  (h : (c = 112 → (Q (some (vI (if (8 : Int) ≤ (iv M 9 3) then (-1 : Int) else (1 : Int)))) M)) ∧ (c = 113 → (Q (some (vI (-1 : Int))) M)) ∧ (c = 114 → (Q (some (vI (-1 : Int))) M)) ∧ (c = 115 → (Q (some (vI (if (iv M 9 2) = (0 : Int) then (0 : Int) else (-1 : Int)))) M)) ∧ (c = 116 → (Q (some (vI (if (12 : Int) ≤ (iv M 9 7) then (-1 : Int) else (2 : Int)))) M)) ∧ ((c < 112 ∨ 116 < c) → (Q (some (vI (-1 : Int))) M))) :
  Call (e + 1) mX2_sortThatMayBegin [vR 9, vI c] M Q := by
  show Run (e + 1) mX2_sortThatMayBegin 0 [some (vR 9), some (vI c)] [] M Q
  refine r_iload_n dX2_sortThatMayBegin_0 rfl ?_
  by_cases c1 : c < 112 ∨ 116 < c
  · refine r_tab_out (tgt := 79) dX2_sortThatMayBegin_1 c1 rfl ?_
    refine r_iconst dX2_sortThatMayBegin_79 (by decide) ?_
    exact r_iret dX2_sortThatMayBegin_80 rfl (h.2.2.2.2.2 c1)
  · rcases (show c = 112 ∨ c = 113 ∨ c = 114 ∨ c = 115 ∨ c = 116 by omega) with c1e | c1e | c1e | c1e | c1e
    · refine r_tab_eq (tgt := 49) dX2_sortThatMayBegin_1 c1e (by decide) rfl rfl ?_
      refine r_aload_n dX2_sortThatMayBegin_49 rfl ?_
      refine r_get0 dX2_sortThatMayBegin_50 kF2_39 (sh_o hS kk9 (by decide)) ?_
      refine r_bipush dX2_sortThatMayBegin_53 (by decide) ?_
      have K2 : Run (e + 1) mX2_sortThatMayBegin 63 [some (vR 9), some (vI c)] [vI (if (8 : Int) ≤ (iv M 9 3) then (-1 : Int) else (1 : Int))] M Q := by
        exact r_iret dX2_sortThatMayBegin_63 rfl (h.1 c1e)
      refine r_icmp_ge dX2_sortThatMayBegin_55 rfl (fun q3 => ?_) (fun q3 => ?_)
      · rw [if_pos q3] at K2
        refine r_iconst dX2_sortThatMayBegin_62 (by decide) ?_
        exact K2
      · rw [if_neg q3] at K2
        refine r_iconst dX2_sortThatMayBegin_58 (by decide) ?_
        refine r_goto (tgt := 63) dX2_sortThatMayBegin_59 rfl ?_
        exact K2
    · refine r_tab_eq (tgt := 79) dX2_sortThatMayBegin_1 c1e (by decide) rfl rfl ?_
      refine r_iconst dX2_sortThatMayBegin_79 (by decide) ?_
      exact r_iret dX2_sortThatMayBegin_80 rfl (h.2.1 c1e)
    · refine r_tab_eq (tgt := 79) dX2_sortThatMayBegin_1 c1e (by decide) rfl rfl ?_
      refine r_iconst dX2_sortThatMayBegin_79 (by decide) ?_
      exact r_iret dX2_sortThatMayBegin_80 rfl (h.2.2.1 c1e)
    · refine r_tab_eq (tgt := 36) dX2_sortThatMayBegin_1 c1e (by decide) rfl rfl ?_
      refine r_aload_n dX2_sortThatMayBegin_36 rfl ?_
      refine r_get3 dX2_sortThatMayBegin_37 kF2_46 (sh_o hS kk9 (by decide)) ?_
      have K5 : Run (e + 1) mX2_sortThatMayBegin 48 [some (vR 9), some (vI c)] [vI (if (iv M 9 2) = (0 : Int) then (0 : Int) else (-1 : Int))] M Q := by
        exact r_iret dX2_sortThatMayBegin_48 rfl (h.2.2.2.1 c1e)
      refine r_if_eq dX2_sortThatMayBegin_40 rfl (fun q6 => ?_) (fun q6 => ?_)
      · rw [if_pos q6] at K5
        refine r_iconst dX2_sortThatMayBegin_47 (by decide) ?_
        exact K5
      · rw [if_neg q6] at K5
        refine r_iconst dX2_sortThatMayBegin_43 (by decide) ?_
        refine r_goto (tgt := 48) dX2_sortThatMayBegin_44 rfl ?_
        exact K5
    · refine r_tab_eq (tgt := 64) dX2_sortThatMayBegin_1 c1e (by decide) rfl rfl ?_
      refine r_aload_n dX2_sortThatMayBegin_64 rfl ?_
      refine r_get0 dX2_sortThatMayBegin_65 kF2_43 (sh_o hS kk9 (by decide)) ?_
      refine r_bipush dX2_sortThatMayBegin_68 (by decide) ?_
      have K8 : Run (e + 1) mX2_sortThatMayBegin 78 [some (vR 9), some (vI c)] [vI (if (12 : Int) ≤ (iv M 9 7) then (-1 : Int) else (2 : Int))] M Q := by
        exact r_iret dX2_sortThatMayBegin_78 rfl (h.2.2.2.2.1 c1e)
      refine r_icmp_ge dX2_sortThatMayBegin_70 rfl (fun q9 => ?_) (fun q9 => ?_)
      · rw [if_pos q9] at K8
        refine r_iconst dX2_sortThatMayBegin_77 (by decide) ?_
        exact K8
      · rw [if_neg q9] at K8
        refine r_iconst dX2_sortThatMayBegin_73 (by decide) ?_
        refine r_goto (tgt := 78) dX2_sortThatMayBegin_74 rfl ?_
        exact K8
theorem vj_lay {e : Nat} {M : jM} {Q : Option jV → jM → Prop} {st : Int} (he : 4 ≤ e) (hS : Shp M)
  (h : Run (e + 1) mX2_layOutUntold 2 [some (vR 9), some (vI st), some (vI (0 : Int))] [] M Q) :
  Call (e + 1) mX2_layOutUntold [vR 9, vI st] M Q := by
  show Run (e + 1) mX2_layOutUntold 0 [some (vR 9), some (vI st), none] [] M Q
  refine r_iconst dX2_layOutUntold_0 (by decide) ?_
  refine r_istore_n (ls2 := [some (vR 9), some (vI st), some (vI (0 : Int))]) dX2_layOutUntold_1 (Nat.le_of_ble_eq_true rfl) rfl ?_
  exact h
theorem vj_lay_2 {e : Nat} {M : jM} {Q : Option jV → jM → Prop} {st : Int} {l2 : Int}  (he : 4 ≤ e) (hS : Shp M)
  (h : (((4 : Int) ≤ l2) → (Q none M)) ∧ (¬ ((4 : Int) ≤ l2) → (∀ N2 : jM, N2 = (ptv M 4 10 l2 (atv M 12 4 (w32 ((w32 (st * (4 : Int))) + l2)))) → Shp N2 → (Run (e + 1) mX2_layOutUntold 2 [some (vR 9), some (vI st), some (vI (w32 (l2 + (1 : Int))))] [] N2 Q)))) :
  Run (e + 1) mX2_layOutUntold 2 [some (vR 9), some (vI st), some (vI l2)] [] M Q := by
  refine r_iload_n dX2_layOutUntold_2 rfl ?_
  refine r_iconst dX2_layOutUntold_3 (by decide) ?_
  refine r_icmp_ge dX2_layOutUntold_4 rfl (fun c1 => ?_) (fun c1 => ?_)
  · exact r_vret dX2_layOutUntold_32 rfl (h.1 c1)
  · refine r_aload_n dX2_layOutUntold_7 rfl ?_
    refine r_getS (v := 10) dX2_layOutUntold_8 kF2_11 (sh_o hS kk9 (by decide)) (sh_f hS rr9_0 (by decide)) ?_
    refine r_iload_n dX2_layOutUntold_11 rfl ?_
    refine r_stat dX2_layOutUntold_12 kS2_96 ?_
    refine r_iload_n dX2_layOutUntold_15 rfl ?_
    refine r_iconst dX2_layOutUntold_16 (by decide) ?_
    refine r_imul dX2_layOutUntold_17 ?_
    refine r_iload_n dX2_layOutUntold_18 rfl ?_
    refine r_iadd dX2_layOutUntold_19 ?_
    refine r_invS_i dX2_layOutUntold_20 (by decide) kXn2_99 kM2_99 (by decide) (Nat.le_of_ble_eq_true rfl) rfl rfl (Nat.le_of_ble_eq_true rfl) (Nat.le_of_ble_eq_true rfl) (c_at (by omega) (sh_r hS kk4 (by decide)) ⟨_, rfl, ?_⟩)
    refine r_invS_v dX2_layOutUntold_23 (by decide) kXn2_103 kM2_103 (by decide) (Nat.le_of_ble_eq_true rfl) rfl rfl (Nat.le_of_ble_eq_true rfl) (Nat.le_of_ble_eq_true rfl) (c_put (by omega) (sh_r hS kk10 (by decide)) (by decide) ⟨rfl, ?_⟩)
    have K5 : ∀ N2 : jM, N2 = (ptv M 4 10 l2 (atv M 12 4 (w32 ((w32 (st * (4 : Int))) + l2)))) → Run (e + 1) mX2_layOutUntold 26 [some (vR 9), some (vI st), some (vI l2)] [] N2 Q := by
      intro N2 hN4
      have sN3 : Shp N2 := by rw [hN4]; exact hS
      refine r_iinc (ls2 := [some (vR 9), some (vI st), some (vI (w32 (l2 + (1 : Int))))]) dX2_layOutUntold_26 rfl rfl ?_
      refine r_goto (tgt := 2) dX2_layOutUntold_29 rfl ?_
      exact ((h.2 c1) N2 hN4 sN3)
    exact K5 _ rfl
theorem vj_readItems {e : Nat} {M : jM} {Q : Option jV → jM → Prop} {st : Int} (he : 4 ≤ e) (hS : Shp M)
  (h : Run (e + 1) mX2_readItems 5 [some (vR 9), some (vR 7), some (vI st), some (vI (0 : Int)), some (vI (0 : Int)), none, none, none] [] M Q) :
  Call (e + 1) mX2_readItems [vR 9, vR 7, vI st] M Q := by
  show Run (e + 1) mX2_readItems 0 [some (vR 9), some (vR 7), some (vI st), none, none, none, none, none] [] M Q
  refine r_iconst dX2_readItems_0 (by decide) ?_
  refine r_istore_n (ls2 := [some (vR 9), some (vR 7), some (vI st), some (vI (0 : Int)), none, none, none, none]) dX2_readItems_1 (Nat.le_of_ble_eq_true rfl) rfl ?_
  refine r_iconst dX2_readItems_2 (by decide) ?_
  refine r_istore (ls2 := [some (vR 9), some (vR 7), some (vI st), some (vI (0 : Int)), some (vI (0 : Int)), none, none, none]) dX2_readItems_3 (Nat.le_of_ble_eq_true rfl) rfl ?_
  exact h
theorem vj_readItems_5 {e : Nat} {M : jM} {Q : Option jV → jM → Prop} {st : Int} {l3 : Int} {l4 : Int} {l5 : Option jV} {l6 : Option jV} {l7 : Option jV}  (he : 4 ≤ e) (hS : Shp M)
  (h : (((4 : Int) < l4) → (∀ N2 : jM, N2 = (si M 7 3 (iv M 7 2)) → Shp N2 → (Q (some (vI (0 : Int))) N2))) ∧ (¬ ((4 : Int) < l4) → (Call e mX8_next [vR 7] M (fun r7 M5 => ∃ z4 : Int, r7 = some (vI z4) ∧ Shp M5 ∧ (((z4 = (-1 : Int)) → (Q (some (vI (1 : Int))) M5)) ∧ (¬ (z4 = (-1 : Int)) → (((z4 ≠ (59 : Int)) → (Call e mX2_itemOf [vR 9, vI st, vI z4] M5 (fun r14 M12 => ∃ z11 : Int, r14 = some (vI z11) ∧ Shp M12 ∧ (((z11 = (-1 : Int)) → (∀ N17 : jM, N17 = (si M12 7 3 (iv M12 7 2)) → Shp N17 → (Q (some (vI (0 : Int))) N17))) ∧ (¬ (z11 = (-1 : Int)) → ((((jand (jshr l3 z11) (1 : Int)) ≠ (1 : Int)) → (∀ N20 : jM, N20 = (si M12 7 2 (if iv M12 7 2 < iv M12 7 1 then w32 (iv M12 7 2 + 1) else iv M12 7 2)) → Shp N20 → (Call e mX8_number [vR 7, vI (2 : Int)] N20 (fun r25 M23 => ∃ z22 : Int, r25 = some (vI z22) ∧ Shp M23 ∧ (((z22 ≠ (-1 : Int)) → (((z22 < (atv M23 12 2 (w32 ((w32 (st * (4 : Int))) + z11)))) → (∀ N29 : jM, N29 = (si M23 7 3 (w32 ((iv M23 7 2) - (1 : Int)))) → Shp N29 → (Q (some (vI (0 : Int))) N29))) ∧ (¬ (z22 < (atv M23 12 2 (w32 ((w32 (st * (4 : Int))) + z11)))) → (((z22 ≤ (atv M23 12 3 (w32 ((w32 (st * (4 : Int))) + z11)))) → (∀ N32 : jM, N32 = (ptv M23 4 10 z11 z22) → Shp N32 → (Run (e + 1) mX2_readItems 5 [some (vR 9), some (vR 7), some (vI st), some (vI (jor l3 (jshl (1 : Int) z11))), some (vI (w32 (l4 + (1 : Int)))), some (vI z4), some (vI z11), some (vI z22)] [] N32 Q))) ∧ (¬ (z22 ≤ (atv M23 12 3 (w32 ((w32 (st * (4 : Int))) + z11)))) → (∀ N34 : jM, N34 = (si M23 7 3 (w32 ((iv M23 7 2) - (1 : Int)))) → Shp N34 → (Q (some (vI (0 : Int))) N34))))))) ∧ (¬ (z22 ≠ (-1 : Int)) → (Q (some (vI (0 : Int))) M23))))))) ∧ (¬ ((jand (jshr l3 z11) (1 : Int)) ≠ (1 : Int)) → (∀ N36 : jM, N36 = (si M12 7 3 (iv M12 7 2)) → Shp N36 → (Q (some (vI (0 : Int))) N36))))))))) ∧ (¬ (z4 ≠ (59 : Int)) → (Q (some (vI (1 : Int))) M5))))))))) :
  Run (e + 1) mX2_readItems 5 [some (vR 9), some (vR 7), some (vI st), some (vI l3), some (vI l4), l5, l6, l7] [] M Q := by
  refine r_iload dX2_readItems_5 rfl ?_
  refine r_iconst dX2_readItems_7 (by decide) ?_
  refine r_icmp_gt dX2_readItems_8 rfl (fun c1 => ?_) (fun c1 => ?_)
  · refine r_aload_n dX2_readItems_150 rfl ?_
    refine r_invV_i dX2_readItems_151 kM2_75 (by decide) (Nat.le_of_ble_eq_true rfl) rfl rfl (Nat.le_of_ble_eq_true rfl) (Nat.le_of_ble_eq_true rfl) (sh_o hS kk7 (by decide)) (c_fail (by omega) hS ⟨_, rfl, ?_⟩)
    have K39 : ∀ N2 : jM, N2 = (si M 7 3 (iv M 7 2)) → Run (e + 1) mX2_readItems 154 [some (vR 9), some (vR 7), some (vI st), some (vI l3), some (vI l4), l5, l6, l7] [vI (0 : Int)] N2 Q := by
      intro N2 hN38
      have sN3 : Shp N2 := by rw [hN38]; exact hS
      exact r_zret dX2_readItems_154 rfl (by decide) ((h.1 c1) N2 hN38 sN3)
    exact K39 _ rfl
  · refine r_aload_n dX2_readItems_11 rfl ?_
    refine r_invV_i dX2_readItems_12 kM2_67 (by decide) (Nat.le_of_ble_eq_true rfl) rfl rfl (Nat.le_of_ble_eq_true rfl) (Nat.le_of_ble_eq_true rfl) (sh_o hS kk7 (by decide)) (Call.mono (h.2 c1) (Nat.le_refl _) ?_)
    rintro _ M5 ⟨z4, rfl, s8, h6⟩
    refine ⟨_, rfl, ?_⟩
    refine r_istore (ls2 := [some (vR 9), some (vR 7), some (vI st), some (vI l3), some (vI l4), some (vI z4), l6, l7]) dX2_readItems_15 (Nat.le_of_ble_eq_true rfl) rfl ?_
    refine r_iload dX2_readItems_17 rfl ?_
    refine r_iconst dX2_readItems_19 (by decide) ?_
    refine r_icmp_eq dX2_readItems_20 rfl (fun c9 => ?_) (fun c9 => ?_)
    · refine r_iconst dX2_readItems_30 (by decide) ?_
      exact r_zret dX2_readItems_31 rfl (by decide) (h6.1 c9)
    · refine r_iload dX2_readItems_23 rfl ?_
      refine r_bipush dX2_readItems_25 (by decide) ?_
      refine r_icmp_ne dX2_readItems_27 rfl (fun c10 => ?_) (fun c10 => ?_)
      · refine r_aload_n dX2_readItems_32 rfl ?_
        refine r_iload_n dX2_readItems_33 rfl ?_
        refine r_iload dX2_readItems_34 rfl ?_
        refine r_invV_i dX2_readItems_36 kM2_107 (by decide) (Nat.le_of_ble_eq_true rfl) rfl rfl (Nat.le_of_ble_eq_true rfl) (Nat.le_of_ble_eq_true rfl) (sh_o s8 kk9 (by decide)) (Call.mono ((h6.2 c9).1 c10) (Nat.le_refl _) ?_)
        rintro _ M12 ⟨z11, rfl, s15, h13⟩
        refine ⟨_, rfl, ?_⟩
        refine r_istore (ls2 := [some (vR 9), some (vR 7), some (vI st), some (vI l3), some (vI l4), some (vI z4), some (vI z11), l7]) dX2_readItems_39 (Nat.le_of_ble_eq_true rfl) rfl ?_
        refine r_iload dX2_readItems_41 rfl ?_
        refine r_iconst dX2_readItems_43 (by decide) ?_
        refine r_icmp_eq dX2_readItems_44 rfl (fun c16 => ?_) (fun c16 => ?_)
        · refine r_aload_n dX2_readItems_57 rfl ?_
          refine r_invV_i dX2_readItems_58 kM2_75 (by decide) (Nat.le_of_ble_eq_true rfl) rfl rfl (Nat.le_of_ble_eq_true rfl) (Nat.le_of_ble_eq_true rfl) (sh_o s15 kk7 (by decide)) (c_fail (by omega) s15 ⟨_, rfl, ?_⟩)
          have K41 : ∀ N17 : jM, N17 = (si M12 7 3 (iv M12 7 2)) → Run (e + 1) mX2_readItems 61 [some (vR 9), some (vR 7), some (vI st), some (vI l3), some (vI l4), some (vI z4), some (vI z11), l7] [vI (0 : Int)] N17 Q := by
            intro N17 hN40
            have sN18 : Shp N17 := by rw [hN40]; exact s15
            exact r_zret dX2_readItems_61 rfl (by decide) ((h13.1 c16) N17 hN40 sN18)
          exact K41 _ rfl
        · refine r_iload_n dX2_readItems_47 rfl ?_
          refine r_iload dX2_readItems_48 rfl ?_
          refine r_ishr dX2_readItems_50 ?_
          refine r_iconst dX2_readItems_51 (by decide) ?_
          refine r_iand dX2_readItems_52 ?_
          refine r_iconst dX2_readItems_53 (by decide) ?_
          refine r_icmp_ne dX2_readItems_54 rfl (fun c19 => ?_) (fun c19 => ?_)
          · refine r_iload_n dX2_readItems_62 rfl ?_
            refine r_iconst dX2_readItems_63 (by decide) ?_
            refine r_iload dX2_readItems_64 rfl ?_
            refine r_ishl dX2_readItems_66 ?_
            refine r_ior dX2_readItems_67 ?_
            refine r_istore_n (ls2 := [some (vR 9), some (vR 7), some (vI st), some (vI (jor l3 (jshl (1 : Int) z11))), some (vI l4), some (vI z4), some (vI z11), l7]) dX2_readItems_68 (Nat.le_of_ble_eq_true rfl) rfl ?_
            refine r_aload_n dX2_readItems_69 rfl ?_
            refine r_invV_v dX2_readItems_70 kM2_86 (by decide) (Nat.le_of_ble_eq_true rfl) rfl rfl (Nat.le_of_ble_eq_true rfl) (Nat.le_of_ble_eq_true rfl) (sh_o s15 kk7 (by decide)) (c_step (by omega) s15 ⟨rfl, ?_⟩)
            have K43 : ∀ N20 : jM, N20 = (si M12 7 2 (if iv M12 7 2 < iv M12 7 1 then w32 (iv M12 7 2 + 1) else iv M12 7 2)) → Run (e + 1) mX2_readItems 73 [some (vR 9), some (vR 7), some (vI st), some (vI (jor l3 (jshl (1 : Int) z11))), some (vI l4), some (vI z4), some (vI z11), l7] [] N20 Q := by
              intro N20 hN42
              have sN21 : Shp N20 := by rw [hN42]; exact s15
              refine r_aload_n dX2_readItems_73 rfl ?_
              refine r_iconst dX2_readItems_74 (by decide) ?_
              refine r_invV_i dX2_readItems_75 kM2_111 (by decide) (Nat.le_of_ble_eq_true rfl) rfl rfl (Nat.le_of_ble_eq_true rfl) (Nat.le_of_ble_eq_true rfl) (sh_o sN21 kk7 (by decide)) (Call.mono (((h13.2 c16).1 c19) N20 hN42 sN21) (Nat.le_refl _) ?_)
              rintro _ M23 ⟨z22, rfl, s26, h24⟩
              refine ⟨_, rfl, ?_⟩
              refine r_istore (ls2 := [some (vR 9), some (vR 7), some (vI st), some (vI (jor l3 (jshl (1 : Int) z11))), some (vI l4), some (vI z4), some (vI z11), some (vI z22)]) dX2_readItems_78 (Nat.le_of_ble_eq_true rfl) rfl ?_
              refine r_iload dX2_readItems_80 rfl ?_
              refine r_iconst dX2_readItems_82 (by decide) ?_
              refine r_icmp_ne dX2_readItems_83 rfl (fun c27 => ?_) (fun c27 => ?_)
              · refine r_iload dX2_readItems_88 rfl ?_
                refine r_stat dX2_readItems_90 kS2_114 ?_
                refine r_iload_n dX2_readItems_93 rfl ?_
                refine r_iconst dX2_readItems_94 (by decide) ?_
                refine r_imul dX2_readItems_95 ?_
                refine r_iload dX2_readItems_96 rfl ?_
                refine r_iadd dX2_readItems_98 ?_
                refine r_invS_i dX2_readItems_99 (by decide) kXn2_99 kM2_99 (by decide) (Nat.le_of_ble_eq_true rfl) rfl rfl (Nat.le_of_ble_eq_true rfl) (Nat.le_of_ble_eq_true rfl) (c_at (by omega) (sh_r s26 kk2 (by decide)) ⟨_, rfl, ?_⟩)
                refine r_icmp_lt dX2_readItems_102 rfl (fun c28 => ?_) (fun c28 => ?_)
                · refine r_aload_n dX2_readItems_122 rfl ?_
                  refine r_aload_n dX2_readItems_123 rfl ?_
                  refine r_get0 dX2_readItems_124 kF2_120 (sh_o s26 kk7 (by decide)) ?_
                  refine r_iconst dX2_readItems_127 (by decide) ?_
                  refine r_isub dX2_readItems_128 ?_
                  refine r_invV_i dX2_readItems_129 kM2_123 (by decide) (Nat.le_of_ble_eq_true rfl) rfl rfl (Nat.le_of_ble_eq_true rfl) (Nat.le_of_ble_eq_true rfl) (sh_o s26 kk7 (by decide)) (c_failAt (by omega) s26 ⟨_, rfl, ?_⟩)
                  have K45 : ∀ N29 : jM, N29 = (si M23 7 3 (w32 ((iv M23 7 2) - (1 : Int)))) → Run (e + 1) mX2_readItems 132 [some (vR 9), some (vR 7), some (vI st), some (vI (jor l3 (jshl (1 : Int) z11))), some (vI l4), some (vI z4), some (vI z11), some (vI z22)] [vI (0 : Int)] N29 Q := by
                    intro N29 hN44
                    have sN30 : Shp N29 := by rw [hN44]; exact s26
                    exact r_zret dX2_readItems_132 rfl (by decide) (((h24.1 c27).1 c28) N29 hN44 sN30)
                  exact K45 _ rfl
                · refine r_iload dX2_readItems_105 rfl ?_
                  refine r_stat dX2_readItems_107 kS2_117 ?_
                  refine r_iload_n dX2_readItems_110 rfl ?_
                  refine r_iconst dX2_readItems_111 (by decide) ?_
                  refine r_imul dX2_readItems_112 ?_
                  refine r_iload dX2_readItems_113 rfl ?_
                  refine r_iadd dX2_readItems_115 ?_
                  refine r_invS_i dX2_readItems_116 (by decide) kXn2_99 kM2_99 (by decide) (Nat.le_of_ble_eq_true rfl) rfl rfl (Nat.le_of_ble_eq_true rfl) (Nat.le_of_ble_eq_true rfl) (c_at (by omega) (sh_r s26 kk3 (by decide)) ⟨_, rfl, ?_⟩)
                  refine r_icmp_le dX2_readItems_119 rfl (fun c31 => ?_) (fun c31 => ?_)
                  · refine r_aload_n dX2_readItems_133 rfl ?_
                    refine r_getS (v := 10) dX2_readItems_134 kF2_11 (sh_o s26 kk9 (by decide)) (sh_f s26 rr9_0 (by decide)) ?_
                    refine r_iload dX2_readItems_137 rfl ?_
                    refine r_iload dX2_readItems_139 rfl ?_
                    refine r_invS_v dX2_readItems_141 (by decide) kXn2_103 kM2_103 (by decide) (Nat.le_of_ble_eq_true rfl) rfl rfl (Nat.le_of_ble_eq_true rfl) (Nat.le_of_ble_eq_true rfl) (c_put (by omega) (sh_r s26 kk10 (by decide)) (by decide) ⟨rfl, ?_⟩)
                    have K47 : ∀ N32 : jM, N32 = (ptv M23 4 10 z11 z22) → Run (e + 1) mX2_readItems 144 [some (vR 9), some (vR 7), some (vI st), some (vI (jor l3 (jshl (1 : Int) z11))), some (vI l4), some (vI z4), some (vI z11), some (vI z22)] [] N32 Q := by
                      intro N32 hN46
                      have sN33 : Shp N32 := by rw [hN46]; exact s26
                      refine r_iinc (ls2 := [some (vR 9), some (vR 7), some (vI st), some (vI (jor l3 (jshl (1 : Int) z11))), some (vI (w32 (l4 + (1 : Int)))), some (vI z4), some (vI z11), some (vI z22)]) dX2_readItems_144 rfl rfl ?_
                      refine r_goto (tgt := 5) dX2_readItems_147 rfl ?_
                      exact ((((h24.1 c27).2 c28).1 c31) N32 hN46 sN33)
                    exact K47 _ rfl
                  · refine r_aload_n dX2_readItems_122 rfl ?_
                    refine r_aload_n dX2_readItems_123 rfl ?_
                    refine r_get0 dX2_readItems_124 kF2_120 (sh_o s26 kk7 (by decide)) ?_
                    refine r_iconst dX2_readItems_127 (by decide) ?_
                    refine r_isub dX2_readItems_128 ?_
                    refine r_invV_i dX2_readItems_129 kM2_123 (by decide) (Nat.le_of_ble_eq_true rfl) rfl rfl (Nat.le_of_ble_eq_true rfl) (Nat.le_of_ble_eq_true rfl) (sh_o s26 kk7 (by decide)) (c_failAt (by omega) s26 ⟨_, rfl, ?_⟩)
                    have K49 : ∀ N34 : jM, N34 = (si M23 7 3 (w32 ((iv M23 7 2) - (1 : Int)))) → Run (e + 1) mX2_readItems 132 [some (vR 9), some (vR 7), some (vI st), some (vI (jor l3 (jshl (1 : Int) z11))), some (vI l4), some (vI z4), some (vI z11), some (vI z22)] [vI (0 : Int)] N34 Q := by
                      intro N34 hN48
                      have sN35 : Shp N34 := by rw [hN48]; exact s26
                      exact r_zret dX2_readItems_132 rfl (by decide) ((((h24.1 c27).2 c28).2 c31) N34 hN48 sN35)
                    exact K49 _ rfl
              · refine r_iconst dX2_readItems_86 (by decide) ?_
                exact r_zret dX2_readItems_87 rfl (by decide) (h24.2 c27)
            exact K43 _ rfl
          · refine r_aload_n dX2_readItems_57 rfl ?_
            refine r_invV_i dX2_readItems_58 kM2_75 (by decide) (Nat.le_of_ble_eq_true rfl) rfl rfl (Nat.le_of_ble_eq_true rfl) (Nat.le_of_ble_eq_true rfl) (sh_o s15 kk7 (by decide)) (c_fail (by omega) s15 ⟨_, rfl, ?_⟩)
            have K51 : ∀ N36 : jM, N36 = (si M12 7 3 (iv M12 7 2)) → Run (e + 1) mX2_readItems 61 [some (vR 9), some (vR 7), some (vI st), some (vI l3), some (vI l4), some (vI z4), some (vI z11), l7] [vI (0 : Int)] N36 Q := by
              intro N36 hN50
              have sN37 : Shp N36 := by rw [hN50]; exact s15
              exact r_zret dX2_readItems_61 rfl (by decide) (((h13.2 c16).2 c19) N36 hN50 sN37)
            exact K51 _ rfl
      · refine r_iconst dX2_readItems_30 (by decide) ?_
        exact r_zret dX2_readItems_31 rfl (by decide) ((h6.2 c9).2 c10)
theorem vj_itemOf {e : Nat} {M : jM} {Q : Option jV → jM → Prop} {st : Int} {c : Int} (he : 4 ≤ e) (hS : Shp M)
  (h : Run (e + 1) mX2_itemOf 2 [some (vR 9), some (vI st), some (vI c), some (vI (0 : Int))] [] M Q) :
  Call (e + 1) mX2_itemOf [vR 9, vI st, vI c] M Q := by
  show Run (e + 1) mX2_itemOf 0 [some (vR 9), some (vI st), some (vI c), none] [] M Q
  refine r_iconst dX2_itemOf_0 (by decide) ?_
  refine r_istore_n (ls2 := [some (vR 9), some (vI st), some (vI c), some (vI (0 : Int))]) dX2_itemOf_1 (Nat.le_of_ble_eq_true rfl) rfl ?_
  exact h
theorem vj_itemOf_2 {e : Nat} {M : jM} {Q : Option jV → jM → Prop} {st : Int} {c : Int} {l3 : Int}  (he : 4 ≤ e) (hS : Shp M)
  (h : (((4 : Int) ≤ l3) → (Q (some (vI (-1 : Int))) M)) ∧ (¬ ((4 : Int) ≤ l3) → ((((atv M 12 1 (w32 ((w32 (st * (4 : Int))) + l3))) ≠ c) → (Run (e + 1) mX2_itemOf 2 [some (vR 9), some (vI st), some (vI c), some (vI (w32 (l3 + (1 : Int))))] [] M Q)) ∧ (¬ ((atv M 12 1 (w32 ((w32 (st * (4 : Int))) + l3))) ≠ c) → (Q (some (vI l3)) M))))) :
  Run (e + 1) mX2_itemOf 2 [some (vR 9), some (vI st), some (vI c), some (vI l3)] [] M Q := by
  refine r_iload_n dX2_itemOf_2 rfl ?_
  refine r_iconst dX2_itemOf_3 (by decide) ?_
  refine r_icmp_ge dX2_itemOf_4 rfl (fun c1 => ?_) (fun c1 => ?_)
  · refine r_iconst dX2_itemOf_30 (by decide) ?_
    exact r_iret dX2_itemOf_31 rfl (h.1 c1)
  · refine r_stat dX2_itemOf_7 kS2_126 ?_
    refine r_iload_n dX2_itemOf_10 rfl ?_
    refine r_iconst dX2_itemOf_11 (by decide) ?_
    refine r_imul dX2_itemOf_12 ?_
    refine r_iload_n dX2_itemOf_13 rfl ?_
    refine r_iadd dX2_itemOf_14 ?_
    refine r_invS_i dX2_itemOf_15 (by decide) kXn2_99 kM2_99 (by decide) (Nat.le_of_ble_eq_true rfl) rfl rfl (Nat.le_of_ble_eq_true rfl) (Nat.le_of_ble_eq_true rfl) (c_at (by omega) (sh_r hS kk1 (by decide)) ⟨_, rfl, ?_⟩)
    refine r_iload_n dX2_itemOf_18 rfl ?_
    refine r_icmp_ne dX2_itemOf_19 rfl (fun c2 => ?_) (fun c2 => ?_)
    · refine r_iinc (ls2 := [some (vR 9), some (vI st), some (vI c), some (vI (w32 (l3 + (1 : Int))))]) dX2_itemOf_24 rfl rfl ?_
      refine r_goto (tgt := 2) dX2_itemOf_27 rfl ?_
      exact ((h.2 c1).1 c2)
    · refine r_iload_n dX2_itemOf_22 rfl ?_
      exact r_iret dX2_itemOf_23 rfl ((h.2 c1).2 c2)
theorem vj_keep {e : Nat} {M : jM} {Q : Option jV → jM → Prop} {st : Int} (he : 4 ≤ e) (hS : Shp M)
  (h : ((st ≠ (0 : Int)) → (((st ≠ (1 : Int)) → (∀ N3 : jM, N3 = (ptv M 12 15 (iv M 9 7) (atv M 4 10 (0 : Int))) → Shp N3 → (∀ N5 : jM, N5 = (ptv N3 12 16 (iv N3 9 7) (atv N3 4 10 (1 : Int))) → Shp N5 → (∀ N7 : jM, N7 = (ptv N5 12 17 (iv N5 9 7) (atv N5 4 10 (2 : Int))) → Shp N7 → (∀ N9 : jM, N9 = (ptv N7 12 18 (iv N7 9 7) (atv N7 4 10 (3 : Int))) → Shp N9 → (∀ N11 : jM, N11 = (si N9 9 7 (w32 ((iv N9 9 7) + (1 : Int)))) → Shp N11 → (Q none N11))))))) ∧ (¬ (st ≠ (1 : Int)) → (∀ N13 : jM, N13 = (ptv M 8 12 (iv M 9 3) (atv M 4 10 (0 : Int))) → Shp N13 → (∀ N15 : jM, N15 = (ptv N13 8 13 (iv N13 9 3) (atv N13 4 10 (1 : Int))) → Shp N15 → (∀ N17 : jM, N17 = (ptv N15 8 14 (iv N15 9 3) (atv N15 4 10 (2 : Int))) → Shp N17 → (∀ N19 : jM, N19 = (si N17 9 3 (w32 ((iv N17 9 3) + (1 : Int)))) → Shp N19 → (Q none N19)))))))) ∧ (¬ (st ≠ (0 : Int)) → (∀ N21 : jM, N21 = (si M 9 2 (1 : Int)) → Shp N21 → (∀ N23 : jM, N23 = (cpr N21 10 11 4) → Shp N23 → (Q none N23))))) :
  Call (e + 1) mX2_keep [vR 9, vI st] M Q := by
  show Run (e + 1) mX2_keep 0 [some (vR 9), some (vI st)] [] M Q
  refine r_iload_n dX2_keep_0 rfl ?_
  refine r_if_ne dX2_keep_1 rfl (fun c1 => ?_) (fun c1 => ?_)
  · refine r_iload_n dX2_keep_23 rfl ?_
    refine r_iconst dX2_keep_24 (by decide) ?_
    refine r_icmp_ne dX2_keep_25 rfl (fun c2 => ?_) (fun c2 => ?_)
    · refine r_aload_n dX2_keep_98 rfl ?_
      refine r_getS (v := 15) dX2_keep_99 kF2_27 (sh_o hS kk9 (by decide)) (sh_f hS rr9_8 (by decide)) ?_
      refine r_aload_n dX2_keep_102 rfl ?_
      refine r_get0 dX2_keep_103 kF2_43 (sh_o hS kk9 (by decide)) ?_
      refine r_aload_n dX2_keep_106 rfl ?_
      refine r_getS (v := 10) dX2_keep_107 kF2_11 (sh_o hS kk9 (by decide)) (sh_f hS rr9_0 (by decide)) ?_
      refine r_iconst dX2_keep_110 (by decide) ?_
      refine r_invS_i dX2_keep_111 (by decide) kXn2_99 kM2_99 (by decide) (Nat.le_of_ble_eq_true rfl) rfl rfl (Nat.le_of_ble_eq_true rfl) (Nat.le_of_ble_eq_true rfl) (c_at (by omega) (sh_r hS kk10 (by decide)) ⟨_, rfl, ?_⟩)
      refine r_invS_v dX2_keep_114 (by decide) kXn2_103 kM2_103 (by decide) (Nat.le_of_ble_eq_true rfl) rfl rfl (Nat.le_of_ble_eq_true rfl) (Nat.le_of_ble_eq_true rfl) (c_put (by omega) (sh_r hS kk15 (by decide)) (by decide) ⟨rfl, ?_⟩)
      have K26 : ∀ N3 : jM, N3 = (ptv M 12 15 (iv M 9 7) (atv M 4 10 (0 : Int))) → Run (e + 1) mX2_keep 117 [some (vR 9), some (vI st)] [] N3 Q := by
        intro N3 hN25
        have sN4 : Shp N3 := by rw [hN25]; exact hS
        refine r_aload_n dX2_keep_117 rfl ?_
        refine r_getS (v := 16) dX2_keep_118 kF2_30 (sh_o sN4 kk9 (by decide)) (sh_f sN4 rr9_9 (by decide)) ?_
        refine r_aload_n dX2_keep_121 rfl ?_
        refine r_get0 dX2_keep_122 kF2_43 (sh_o sN4 kk9 (by decide)) ?_
        refine r_aload_n dX2_keep_125 rfl ?_
        refine r_getS (v := 10) dX2_keep_126 kF2_11 (sh_o sN4 kk9 (by decide)) (sh_f sN4 rr9_0 (by decide)) ?_
        refine r_iconst dX2_keep_129 (by decide) ?_
        refine r_invS_i dX2_keep_130 (by decide) kXn2_99 kM2_99 (by decide) (Nat.le_of_ble_eq_true rfl) rfl rfl (Nat.le_of_ble_eq_true rfl) (Nat.le_of_ble_eq_true rfl) (c_at (by omega) (sh_r sN4 kk10 (by decide)) ⟨_, rfl, ?_⟩)
        refine r_invS_v dX2_keep_133 (by decide) kXn2_103 kM2_103 (by decide) (Nat.le_of_ble_eq_true rfl) rfl rfl (Nat.le_of_ble_eq_true rfl) (Nat.le_of_ble_eq_true rfl) (c_put (by omega) (sh_r sN4 kk16 (by decide)) (by decide) ⟨rfl, ?_⟩)
        have K28 : ∀ N5 : jM, N5 = (ptv N3 12 16 (iv N3 9 7) (atv N3 4 10 (1 : Int))) → Run (e + 1) mX2_keep 136 [some (vR 9), some (vI st)] [] N5 Q := by
          intro N5 hN27
          have sN6 : Shp N5 := by rw [hN27]; exact sN4
          refine r_aload_n dX2_keep_136 rfl ?_
          refine r_getS (v := 17) dX2_keep_137 kF2_33 (sh_o sN6 kk9 (by decide)) (sh_f sN6 rr9_10 (by decide)) ?_
          refine r_aload_n dX2_keep_140 rfl ?_
          refine r_get0 dX2_keep_141 kF2_43 (sh_o sN6 kk9 (by decide)) ?_
          refine r_aload_n dX2_keep_144 rfl ?_
          refine r_getS (v := 10) dX2_keep_145 kF2_11 (sh_o sN6 kk9 (by decide)) (sh_f sN6 rr9_0 (by decide)) ?_
          refine r_iconst dX2_keep_148 (by decide) ?_
          refine r_invS_i dX2_keep_149 (by decide) kXn2_99 kM2_99 (by decide) (Nat.le_of_ble_eq_true rfl) rfl rfl (Nat.le_of_ble_eq_true rfl) (Nat.le_of_ble_eq_true rfl) (c_at (by omega) (sh_r sN6 kk10 (by decide)) ⟨_, rfl, ?_⟩)
          refine r_invS_v dX2_keep_152 (by decide) kXn2_103 kM2_103 (by decide) (Nat.le_of_ble_eq_true rfl) rfl rfl (Nat.le_of_ble_eq_true rfl) (Nat.le_of_ble_eq_true rfl) (c_put (by omega) (sh_r sN6 kk17 (by decide)) (by decide) ⟨rfl, ?_⟩)
          have K30 : ∀ N7 : jM, N7 = (ptv N5 12 17 (iv N5 9 7) (atv N5 4 10 (2 : Int))) → Run (e + 1) mX2_keep 155 [some (vR 9), some (vI st)] [] N7 Q := by
            intro N7 hN29
            have sN8 : Shp N7 := by rw [hN29]; exact sN6
            refine r_aload_n dX2_keep_155 rfl ?_
            refine r_getS (v := 18) dX2_keep_156 kF2_36 (sh_o sN8 kk9 (by decide)) (sh_f sN8 rr9_11 (by decide)) ?_
            refine r_aload_n dX2_keep_159 rfl ?_
            refine r_get0 dX2_keep_160 kF2_43 (sh_o sN8 kk9 (by decide)) ?_
            refine r_aload_n dX2_keep_163 rfl ?_
            refine r_getS (v := 10) dX2_keep_164 kF2_11 (sh_o sN8 kk9 (by decide)) (sh_f sN8 rr9_0 (by decide)) ?_
            refine r_iconst dX2_keep_167 (by decide) ?_
            refine r_invS_i dX2_keep_168 (by decide) kXn2_99 kM2_99 (by decide) (Nat.le_of_ble_eq_true rfl) rfl rfl (Nat.le_of_ble_eq_true rfl) (Nat.le_of_ble_eq_true rfl) (c_at (by omega) (sh_r sN8 kk10 (by decide)) ⟨_, rfl, ?_⟩)
            refine r_invS_v dX2_keep_171 (by decide) kXn2_103 kM2_103 (by decide) (Nat.le_of_ble_eq_true rfl) rfl rfl (Nat.le_of_ble_eq_true rfl) (Nat.le_of_ble_eq_true rfl) (c_put (by omega) (sh_r sN8 kk18 (by decide)) (by decide) ⟨rfl, ?_⟩)
            have K32 : ∀ N9 : jM, N9 = (ptv N7 12 18 (iv N7 9 7) (atv N7 4 10 (3 : Int))) → Run (e + 1) mX2_keep 174 [some (vR 9), some (vI st)] [] N9 Q := by
              intro N9 hN31
              have sN10 : Shp N9 := by rw [hN31]; exact sN8
              refine r_aload_n dX2_keep_174 rfl ?_
              refine r_dupR dX2_keep_175 ?_
              refine r_get0 dX2_keep_176 kF2_43 (sh_o sN10 kk9 (by decide)) ?_
              refine r_iconst dX2_keep_179 (by decide) ?_
              refine r_iadd dX2_keep_180 ?_
              refine r_put0 dX2_keep_181 kF2_43 (sh_o sN10 kk9 (by decide)) (Or.inl rfl) ?_
              have K34 : ∀ N11 : jM, N11 = (si N9 9 7 (w32 ((iv N9 9 7) + (1 : Int)))) → Run (e + 1) mX2_keep 184 [some (vR 9), some (vI st)] [] N11 Q := by
                intro N11 hN33
                have sN12 : Shp N11 := by rw [hN33]; exact sN10
                exact r_vret dX2_keep_184 rfl (((((((h.1 c1).1 c2) N3 hN25 sN4) N5 hN27 sN6) N7 hN29 sN8) N9 hN31 sN10) N11 hN33 sN12)
              exact K34 _ rfl
            exact K32 _ rfl
          exact K30 _ rfl
        exact K28 _ rfl
      exact K26 _ rfl
    · refine r_aload_n dX2_keep_28 rfl ?_
      refine r_getS (v := 12) dX2_keep_29 kF2_18 (sh_o hS kk9 (by decide)) (sh_f hS rr9_4 (by decide)) ?_
      refine r_aload_n dX2_keep_32 rfl ?_
      refine r_get0 dX2_keep_33 kF2_39 (sh_o hS kk9 (by decide)) ?_
      refine r_aload_n dX2_keep_36 rfl ?_
      refine r_getS (v := 10) dX2_keep_37 kF2_11 (sh_o hS kk9 (by decide)) (sh_f hS rr9_0 (by decide)) ?_
      refine r_iconst dX2_keep_40 (by decide) ?_
      refine r_invS_i dX2_keep_41 (by decide) kXn2_99 kM2_99 (by decide) (Nat.le_of_ble_eq_true rfl) rfl rfl (Nat.le_of_ble_eq_true rfl) (Nat.le_of_ble_eq_true rfl) (c_at (by omega) (sh_r hS kk10 (by decide)) ⟨_, rfl, ?_⟩)
      refine r_invS_v dX2_keep_44 (by decide) kXn2_103 kM2_103 (by decide) (Nat.le_of_ble_eq_true rfl) rfl rfl (Nat.le_of_ble_eq_true rfl) (Nat.le_of_ble_eq_true rfl) (c_put (by omega) (sh_r hS kk12 (by decide)) (by decide) ⟨rfl, ?_⟩)
      have K36 : ∀ N13 : jM, N13 = (ptv M 8 12 (iv M 9 3) (atv M 4 10 (0 : Int))) → Run (e + 1) mX2_keep 47 [some (vR 9), some (vI st)] [] N13 Q := by
        intro N13 hN35
        have sN14 : Shp N13 := by rw [hN35]; exact hS
        refine r_aload_n dX2_keep_47 rfl ?_
        refine r_getS (v := 13) dX2_keep_48 kF2_21 (sh_o sN14 kk9 (by decide)) (sh_f sN14 rr9_5 (by decide)) ?_
        refine r_aload_n dX2_keep_51 rfl ?_
        refine r_get0 dX2_keep_52 kF2_39 (sh_o sN14 kk9 (by decide)) ?_
        refine r_aload_n dX2_keep_55 rfl ?_
        refine r_getS (v := 10) dX2_keep_56 kF2_11 (sh_o sN14 kk9 (by decide)) (sh_f sN14 rr9_0 (by decide)) ?_
        refine r_iconst dX2_keep_59 (by decide) ?_
        refine r_invS_i dX2_keep_60 (by decide) kXn2_99 kM2_99 (by decide) (Nat.le_of_ble_eq_true rfl) rfl rfl (Nat.le_of_ble_eq_true rfl) (Nat.le_of_ble_eq_true rfl) (c_at (by omega) (sh_r sN14 kk10 (by decide)) ⟨_, rfl, ?_⟩)
        refine r_invS_v dX2_keep_63 (by decide) kXn2_103 kM2_103 (by decide) (Nat.le_of_ble_eq_true rfl) rfl rfl (Nat.le_of_ble_eq_true rfl) (Nat.le_of_ble_eq_true rfl) (c_put (by omega) (sh_r sN14 kk13 (by decide)) (by decide) ⟨rfl, ?_⟩)
        have K38 : ∀ N15 : jM, N15 = (ptv N13 8 13 (iv N13 9 3) (atv N13 4 10 (1 : Int))) → Run (e + 1) mX2_keep 66 [some (vR 9), some (vI st)] [] N15 Q := by
          intro N15 hN37
          have sN16 : Shp N15 := by rw [hN37]; exact sN14
          refine r_aload_n dX2_keep_66 rfl ?_
          refine r_getS (v := 14) dX2_keep_67 kF2_24 (sh_o sN16 kk9 (by decide)) (sh_f sN16 rr9_6 (by decide)) ?_
          refine r_aload_n dX2_keep_70 rfl ?_
          refine r_get0 dX2_keep_71 kF2_39 (sh_o sN16 kk9 (by decide)) ?_
          refine r_aload_n dX2_keep_74 rfl ?_
          refine r_getS (v := 10) dX2_keep_75 kF2_11 (sh_o sN16 kk9 (by decide)) (sh_f sN16 rr9_0 (by decide)) ?_
          refine r_iconst dX2_keep_78 (by decide) ?_
          refine r_invS_i dX2_keep_79 (by decide) kXn2_99 kM2_99 (by decide) (Nat.le_of_ble_eq_true rfl) rfl rfl (Nat.le_of_ble_eq_true rfl) (Nat.le_of_ble_eq_true rfl) (c_at (by omega) (sh_r sN16 kk10 (by decide)) ⟨_, rfl, ?_⟩)
          refine r_invS_v dX2_keep_82 (by decide) kXn2_103 kM2_103 (by decide) (Nat.le_of_ble_eq_true rfl) rfl rfl (Nat.le_of_ble_eq_true rfl) (Nat.le_of_ble_eq_true rfl) (c_put (by omega) (sh_r sN16 kk14 (by decide)) (by decide) ⟨rfl, ?_⟩)
          have K40 : ∀ N17 : jM, N17 = (ptv N15 8 14 (iv N15 9 3) (atv N15 4 10 (2 : Int))) → Run (e + 1) mX2_keep 85 [some (vR 9), some (vI st)] [] N17 Q := by
            intro N17 hN39
            have sN18 : Shp N17 := by rw [hN39]; exact sN16
            refine r_aload_n dX2_keep_85 rfl ?_
            refine r_dupR dX2_keep_86 ?_
            refine r_get0 dX2_keep_87 kF2_39 (sh_o sN18 kk9 (by decide)) ?_
            refine r_iconst dX2_keep_90 (by decide) ?_
            refine r_iadd dX2_keep_91 ?_
            refine r_put0 dX2_keep_92 kF2_39 (sh_o sN18 kk9 (by decide)) (Or.inl rfl) ?_
            have K42 : ∀ N19 : jM, N19 = (si N17 9 3 (w32 ((iv N17 9 3) + (1 : Int)))) → Run (e + 1) mX2_keep 95 [some (vR 9), some (vI st)] [] N19 Q := by
              intro N19 hN41
              have sN20 : Shp N19 := by rw [hN41]; exact sN18
              refine r_goto (tgt := 184) dX2_keep_95 rfl ?_
              exact r_vret dX2_keep_184 rfl ((((((h.1 c1).2 c2) N13 hN35 sN14) N15 hN37 sN16) N17 hN39 sN18) N19 hN41 sN20)
            exact K42 _ rfl
          exact K40 _ rfl
        exact K38 _ rfl
      exact K36 _ rfl
  · refine r_aload_n dX2_keep_4 rfl ?_
    refine r_iconst dX2_keep_5 (by decide) ?_
    refine r_put3 dX2_keep_6 kF2_46 (sh_o hS kk9 (by decide)) (Or.inl rfl) (by decide) ?_
    have K44 : ∀ N21 : jM, N21 = (si M 9 2 (1 : Int)) → Run (e + 1) mX2_keep 9 [some (vR 9), some (vI st)] [] N21 Q := by
      intro N21 hN43
      have sN22 : Shp N21 := by rw [hN43]; exact hS
      refine r_aload_n dX2_keep_9 rfl ?_
      refine r_getS (v := 10) dX2_keep_10 kF2_11 (sh_o sN22 kk9 (by decide)) (sh_f sN22 rr9_0 (by decide)) ?_
      refine r_aload_n dX2_keep_13 rfl ?_
      refine r_getS (v := 11) dX2_keep_14 kF2_15 (sh_o sN22 kk9 (by decide)) (sh_f sN22 rr9_1 (by decide)) ?_
      refine r_invS_v dX2_keep_17 (by decide) kXn2_54 kM2_54 (by decide) (Nat.le_of_ble_eq_true rfl) rfl rfl (Nat.le_of_ble_eq_true rfl) (Nat.le_of_ble_eq_true rfl) (c_copyRow (by omega) (sh_r sN22 kk10 (by decide)) (sh_r sN22 kk11 (by decide)) (by decide) (by decide) ⟨rfl, ?_⟩)
      have K46 : ∀ N23 : jM, N23 = (cpr N21 10 11 4) → Run (e + 1) mX2_keep 20 [some (vR 9), some (vI st)] [] N23 Q := by
        intro N23 hN45
        have sN24 : Shp N23 := by rw [hN45]; exact sN22
        refine r_goto (tgt := 184) dX2_keep_20 rfl ?_
        exact r_vret dX2_keep_184 rfl (((h.2 c1) N21 hN43 sN22) N23 hN45 sN24)
      exact K46 _ rfl
    exact K44 _ rfl
theorem vj_holds {e : Nat} {M : jM} {Q : Option jV → jM → Prop}  (he : 4 ≤ e) (hS : Shp M)
  (h : (((2 : Int) ≤ (iv M 9 3)) → (Run (e + 1) mX2_holdsTogether 12 [some (vR 9), some (vI (0 : Int)), none] [] M Q)) ∧ (¬ ((2 : Int) ≤ (iv M 9 3)) → (Q (some (vI (0 : Int))) M))) :
  Call (e + 1) mX2_holdsTogether [vR 9] M Q := by
  show Run (e + 1) mX2_holdsTogether 0 [some (vR 9), none, none] [] M Q
  refine r_aload_n dX2_holdsTogether_0 rfl ?_
  refine r_get0 dX2_holdsTogether_1 kF2_39 (sh_o hS kk9 (by decide)) ?_
  refine r_iconst dX2_holdsTogether_4 (by decide) ?_
  refine r_icmp_ge dX2_holdsTogether_5 rfl (fun c1 => ?_) (fun c1 => ?_)
  · refine r_iconst dX2_holdsTogether_10 (by decide) ?_
    refine r_istore_n (ls2 := [some (vR 9), some (vI (0 : Int)), none]) dX2_holdsTogether_11 (Nat.le_of_ble_eq_true rfl) rfl ?_
    exact (h.1 c1)
  · refine r_iconst dX2_holdsTogether_8 (by decide) ?_
    exact r_zret dX2_holdsTogether_9 rfl (by decide) (h.2 c1)
theorem vj_holds_12 {e : Nat} {M : jM} {Q : Option jV → jM → Prop} {l1 : Int} {l2 : Option jV}  (he : 4 ≤ e) (hS : Shp M)
  (h : (((iv M 9 7) ≤ l1) → (Q (some (vI (1 : Int))) M)) ∧ (¬ ((iv M 9 7) ≤ l1) → ((((iv M 9 3) ≤ (atv M 12 15 l1)) → (Q (some (vI (0 : Int))) M)) ∧ (¬ ((iv M 9 3) ≤ (atv M 12 15 l1)) → ((((iv M 9 3) ≤ (atv M 12 16 l1)) → (Q (some (vI (0 : Int))) M)) ∧ (¬ ((iv M 9 3) ≤ (atv M 12 16 l1)) → ((((atv M 12 15 l1) ≠ (atv M 12 16 l1)) → ((((fG (atv M 8 14 (atv M 12 15 l1)) (atv M 12 17 l1)) = (0 : Int)) → (Q (some (vI (0 : Int))) M)) ∧ (¬ ((fG (atv M 8 14 (atv M 12 15 l1)) (atv M 12 17 l1)) = (0 : Int)) → (Call e mX2_toldAhead [vR 9, vI l1] M (fun r10 M8 => ∃ z7 : Int, r10 = some (vI z7) ∧ Shp M8 ∧ (((z7 < (4 : Int)) → (Run (e + 1) mX2_holdsTogether 12 [some (vR 9), some (vI (w32 (l1 + (1 : Int)))), some (vI (atv M 12 15 l1))] [] M8 Q)) ∧ (¬ (z7 < (4 : Int)) → (Q (some (vI (0 : Int))) M8)))))))) ∧ (¬ ((atv M 12 15 l1) ≠ (atv M 12 16 l1)) → (Q (some (vI (0 : Int))) M))))))))) :
  Run (e + 1) mX2_holdsTogether 12 [some (vR 9), some (vI l1), l2] [] M Q := by
  refine r_iload_n dX2_holdsTogether_12 rfl ?_
  refine r_aload_n dX2_holdsTogether_13 rfl ?_
  refine r_get0 dX2_holdsTogether_14 kF2_43 (sh_o hS kk9 (by decide)) ?_
  refine r_icmp_ge dX2_holdsTogether_17 rfl (fun c2 => ?_) (fun c2 => ?_)
  · refine r_iconst dX2_holdsTogether_105 (by decide) ?_
    exact r_zret dX2_holdsTogether_106 rfl (by decide) (h.1 c2)
  · refine r_aload_n dX2_holdsTogether_20 rfl ?_
    refine r_getS (v := 15) dX2_holdsTogether_21 kF2_27 (sh_o hS kk9 (by decide)) (sh_f hS rr9_8 (by decide)) ?_
    refine r_iload_n dX2_holdsTogether_24 rfl ?_
    refine r_invS_i dX2_holdsTogether_25 (by decide) kXn2_99 kM2_99 (by decide) (Nat.le_of_ble_eq_true rfl) rfl rfl (Nat.le_of_ble_eq_true rfl) (Nat.le_of_ble_eq_true rfl) (c_at (by omega) (sh_r hS kk15 (by decide)) ⟨_, rfl, ?_⟩)
    refine r_istore_n (ls2 := [some (vR 9), some (vI l1), some (vI (atv M 12 15 l1))]) dX2_holdsTogether_28 (Nat.le_of_ble_eq_true rfl) rfl ?_
    refine r_iload_n dX2_holdsTogether_29 rfl ?_
    refine r_aload_n dX2_holdsTogether_30 rfl ?_
    refine r_get0 dX2_holdsTogether_31 kF2_39 (sh_o hS kk9 (by decide)) ?_
    refine r_icmp_ge dX2_holdsTogether_34 rfl (fun c3 => ?_) (fun c3 => ?_)
    · refine r_iconst dX2_holdsTogether_64 (by decide) ?_
      exact r_zret dX2_holdsTogether_65 rfl (by decide) ((h.2 c2).1 c3)
    · refine r_aload_n dX2_holdsTogether_37 rfl ?_
      refine r_getS (v := 16) dX2_holdsTogether_38 kF2_30 (sh_o hS kk9 (by decide)) (sh_f hS rr9_9 (by decide)) ?_
      refine r_iload_n dX2_holdsTogether_41 rfl ?_
      refine r_invS_i dX2_holdsTogether_42 (by decide) kXn2_99 kM2_99 (by decide) (Nat.le_of_ble_eq_true rfl) rfl rfl (Nat.le_of_ble_eq_true rfl) (Nat.le_of_ble_eq_true rfl) (c_at (by omega) (sh_r hS kk16 (by decide)) ⟨_, rfl, ?_⟩)
      refine r_aload_n dX2_holdsTogether_45 rfl ?_
      refine r_get0 dX2_holdsTogether_46 kF2_39 (sh_o hS kk9 (by decide)) ?_
      refine r_icmp_ge dX2_holdsTogether_49 rfl (fun c4 => ?_) (fun c4 => ?_)
      · refine r_iconst dX2_holdsTogether_64 (by decide) ?_
        exact r_zret dX2_holdsTogether_65 rfl (by decide) (((h.2 c2).2 c3).1 c4)
      · refine r_iload_n dX2_holdsTogether_52 rfl ?_
        refine r_aload_n dX2_holdsTogether_53 rfl ?_
        refine r_getS (v := 16) dX2_holdsTogether_54 kF2_30 (sh_o hS kk9 (by decide)) (sh_f hS rr9_9 (by decide)) ?_
        refine r_iload_n dX2_holdsTogether_57 rfl ?_
        refine r_invS_i dX2_holdsTogether_58 (by decide) kXn2_99 kM2_99 (by decide) (Nat.le_of_ble_eq_true rfl) rfl rfl (Nat.le_of_ble_eq_true rfl) (Nat.le_of_ble_eq_true rfl) (c_at (by omega) (sh_r hS kk16 (by decide)) ⟨_, rfl, ?_⟩)
        refine r_icmp_ne dX2_holdsTogether_61 rfl (fun c5 => ?_) (fun c5 => ?_)
        · refine r_aload_n dX2_holdsTogether_66 rfl ?_
          refine r_getS (v := 14) dX2_holdsTogether_67 kF2_24 (sh_o hS kk9 (by decide)) (sh_f hS rr9_6 (by decide)) ?_
          refine r_iload_n dX2_holdsTogether_70 rfl ?_
          refine r_invS_i dX2_holdsTogether_71 (by decide) kXn2_99 kM2_99 (by decide) (Nat.le_of_ble_eq_true rfl) rfl rfl (Nat.le_of_ble_eq_true rfl) (Nat.le_of_ble_eq_true rfl) (c_at (by omega) (sh_r hS kk14 (by decide)) ⟨_, rfl, ?_⟩)
          refine r_aload_n dX2_holdsTogether_74 rfl ?_
          refine r_getS (v := 17) dX2_holdsTogether_75 kF2_33 (sh_o hS kk9 (by decide)) (sh_f hS rr9_10 (by decide)) ?_
          refine r_iload_n dX2_holdsTogether_78 rfl ?_
          refine r_invS_i dX2_holdsTogether_79 (by decide) kXn2_99 kM2_99 (by decide) (Nat.le_of_ble_eq_true rfl) rfl rfl (Nat.le_of_ble_eq_true rfl) (Nat.le_of_ble_eq_true rfl) (c_at (by omega) (sh_r hS kk17 (by decide)) ⟨_, rfl, ?_⟩)
          refine r_invS_i dX2_holdsTogether_82 (by decide) kXn2_129 kM2_129 (by decide) (Nat.le_of_ble_eq_true rfl) rfl rfl (Nat.le_of_ble_eq_true rfl) (Nat.le_of_ble_eq_true rfl) (c_goesInto (by omega) ⟨_, rfl, ?_⟩)
          refine r_if_eq dX2_holdsTogether_85 rfl (fun c6 => ?_) (fun c6 => ?_)
          · refine r_iconst dX2_holdsTogether_97 (by decide) ?_
            exact r_zret dX2_holdsTogether_98 rfl (by decide) (((((h.2 c2).2 c3).2 c4).1 c5).1 c6)
          · refine r_aload_n dX2_holdsTogether_88 rfl ?_
            refine r_iload_n dX2_holdsTogether_89 rfl ?_
            refine r_invV_i dX2_holdsTogether_90 kM2_133 (by decide) (Nat.le_of_ble_eq_true rfl) rfl rfl (Nat.le_of_ble_eq_true rfl) (Nat.le_of_ble_eq_true rfl) (sh_o hS kk9 (by decide)) (Call.mono (((((h.2 c2).2 c3).2 c4).1 c5).2 c6) (Nat.le_refl _) ?_)
            rintro _ M8 ⟨z7, rfl, s11, h9⟩
            refine ⟨_, rfl, ?_⟩
            refine r_iconst dX2_holdsTogether_93 (by decide) ?_
            refine r_icmp_lt dX2_holdsTogether_94 rfl (fun c12 => ?_) (fun c12 => ?_)
            · refine r_iinc (ls2 := [some (vR 9), some (vI (w32 (l1 + (1 : Int)))), some (vI (atv M 12 15 l1))]) dX2_holdsTogether_99 rfl rfl ?_
              refine r_goto (tgt := 12) dX2_holdsTogether_102 rfl ?_
              exact (h9.1 c12)
            · refine r_iconst dX2_holdsTogether_97 (by decide) ?_
              exact r_zret dX2_holdsTogether_98 rfl (by decide) (h9.2 c12)
        · refine r_iconst dX2_holdsTogether_64 (by decide) ?_
          exact r_zret dX2_holdsTogether_65 rfl (by decide) ((((h.2 c2).2 c3).2 c4).2 c5)
theorem vj_ahead {e : Nat} {M : jM} {Q : Option jV → jM → Prop} {i : Int} (he : 4 ≤ e) (hS : Shp M)
  (h : Run (e + 1) mX2_toldAhead 4 [some (vR 9), some (vI i), some (vI (0 : Int)), some (vI (0 : Int))] [] M Q) :
  Call (e + 1) mX2_toldAhead [vR 9, vI i] M Q := by
  show Run (e + 1) mX2_toldAhead 0 [some (vR 9), some (vI i), none, none] [] M Q
  refine r_iconst dX2_toldAhead_0 (by decide) ?_
  refine r_istore_n (ls2 := [some (vR 9), some (vI i), some (vI (0 : Int)), none]) dX2_toldAhead_1 (Nat.le_of_ble_eq_true rfl) rfl ?_
  refine r_iconst dX2_toldAhead_2 (by decide) ?_
  refine r_istore_n (ls2 := [some (vR 9), some (vI i), some (vI (0 : Int)), some (vI (0 : Int))]) dX2_toldAhead_3 (Nat.le_of_ble_eq_true rfl) rfl ?_
  exact h
theorem vj_ahead_4 {e : Nat} {M : jM} {Q : Option jV → jM → Prop} {i : Int} {l2 : Int} {l3 : Int}  (he : 4 ≤ e) (hS : Shp M)
  (h : ((i ≤ l3) → (Q (some (vI l2)) M)) ∧ (¬ (i ≤ l3) → (∀ v2 : Int, v2 = (w32 (l2 + (if (atv M 12 15 l3) ≠ (atv M 12 15 i) then (0 : Int) else (1 : Int)))) → (Run (e + 1) mX2_toldAhead 4 [some (vR 9), some (vI i), some (vI v2), some (vI (w32 (l3 + (1 : Int))))] [] M Q)))) :
  Run (e + 1) mX2_toldAhead 4 [some (vR 9), some (vI i), some (vI l2), some (vI l3)] [] M Q := by
  refine r_iload_n dX2_toldAhead_4 rfl ?_
  refine r_iload_n dX2_toldAhead_5 rfl ?_
  refine r_icmp_ge dX2_toldAhead_6 rfl (fun c1 => ?_) (fun c1 => ?_)
  · refine r_iload_n dX2_toldAhead_42 rfl ?_
    exact r_iret dX2_toldAhead_43 rfl (h.1 c1)
  · refine r_iload_n dX2_toldAhead_9 rfl ?_
    refine r_aload_n dX2_toldAhead_10 rfl ?_
    refine r_getS (v := 15) dX2_toldAhead_11 kF2_27 (sh_o hS kk9 (by decide)) (sh_f hS rr9_8 (by decide)) ?_
    refine r_iload_n dX2_toldAhead_14 rfl ?_
    refine r_invS_i dX2_toldAhead_15 (by decide) kXn2_99 kM2_99 (by decide) (Nat.le_of_ble_eq_true rfl) rfl rfl (Nat.le_of_ble_eq_true rfl) (Nat.le_of_ble_eq_true rfl) (c_at (by omega) (sh_r hS kk15 (by decide)) ⟨_, rfl, ?_⟩)
    refine r_aload_n dX2_toldAhead_18 rfl ?_
    refine r_getS (v := 15) dX2_toldAhead_19 kF2_27 (sh_o hS kk9 (by decide)) (sh_f hS rr9_8 (by decide)) ?_
    refine r_iload_n dX2_toldAhead_22 rfl ?_
    refine r_invS_i dX2_toldAhead_23 (by decide) kXn2_99 kM2_99 (by decide) (Nat.le_of_ble_eq_true rfl) rfl rfl (Nat.le_of_ble_eq_true rfl) (Nat.le_of_ble_eq_true rfl) (c_at (by omega) (sh_r hS kk15 (by decide)) ⟨_, rfl, ?_⟩)
    have K3 : Run (e + 1) mX2_toldAhead 34 [some (vR 9), some (vI i), some (vI l2), some (vI l3)] [vI (if (atv M 12 15 l3) ≠ (atv M 12 15 i) then (0 : Int) else (1 : Int)), vI l2] M Q := by
      refine r_iadd dX2_toldAhead_34 ?_
      have K5 : ∀ v2 : Int, v2 = (w32 (l2 + (if (atv M 12 15 l3) ≠ (atv M 12 15 i) then (0 : Int) else (1 : Int)))) → Run (e + 1) mX2_toldAhead 35 [some (vR 9), some (vI i), some (vI l2), some (vI l3)] [vI v2] M Q := by
        intro v2 hv4
        refine r_istore_n (ls2 := [some (vR 9), some (vI i), some (vI v2), some (vI l3)]) dX2_toldAhead_35 (Nat.le_of_ble_eq_true rfl) rfl ?_
        refine r_iinc (ls2 := [some (vR 9), some (vI i), some (vI v2), some (vI (w32 (l3 + (1 : Int))))]) dX2_toldAhead_36 rfl rfl ?_
        refine r_goto (tgt := 4) dX2_toldAhead_39 rfl ?_
        exact ((h.2 c1) v2 hv4)
      exact K5 _ rfl
    refine r_icmp_ne dX2_toldAhead_26 rfl (fun q6 => ?_) (fun q6 => ?_)
    · rw [if_pos q6] at K3
      refine r_iconst dX2_toldAhead_33 (by decide) ?_
      exact K3
    · rw [if_neg q6] at K3
      refine r_iconst dX2_toldAhead_29 (by decide) ?_
      refine r_goto (tgt := 34) dX2_toldAhead_30 rfl ?_
      exact K3
theorem vj_settle {e : Nat} {M : jM} {Q : Option jV → jM → Prop}  (he : 4 ≤ e) (hS : Shp M)
  (h : Run (e + 1) mX7_settle 2 [some (vR 41), some (vR 9), some (vI (0 : Int)), none] [] M Q) :
  Call (e + 1) mX7_settle [vR 41, vR 9] M Q := by
  show Run (e + 1) mX7_settle 0 [some (vR 41), some (vR 9), none, none] [] M Q
  refine r_iconst dX7_settle_0 (by decide) ?_
  refine r_istore_n (ls2 := [some (vR 41), some (vR 9), some (vI (0 : Int)), none]) dX7_settle_1 (Nat.le_of_ble_eq_true rfl) rfl ?_
  exact h
theorem vj_settle_2 {e : Nat} {M : jM} {Q : Option jV → jM → Prop} {l2 : Int} {l3 : Option jV}  (he : 4 ≤ e) (hS : Shp M)
  (h : (((32 : Int) ≤ l2) → (Run (e + 1) mX7_settle 25 [some (vR 41), some (vR 9), some (vI (0 : Int)), l3] [] M Q)) ∧ (¬ ((32 : Int) ≤ l2) → (∀ N2 : jM, N2 = (ptv M 32 42 l2 (-1 : Int)) → Shp N2 → (Run (e + 1) mX7_settle 2 [some (vR 41), some (vR 9), some (vI (w32 (l2 + (1 : Int)))), l3] [] N2 Q)))) :
  Run (e + 1) mX7_settle 2 [some (vR 41), some (vR 9), some (vI l2), l3] [] M Q := by
  refine r_iload_n dX7_settle_2 rfl ?_
  refine r_bipush dX7_settle_3 (by decide) ?_
  refine r_icmp_ge dX7_settle_5 rfl (fun c1 => ?_) (fun c1 => ?_)
  · refine r_iconst dX7_settle_23 (by decide) ?_
    refine r_istore_n (ls2 := [some (vR 41), some (vR 9), some (vI (0 : Int)), l3]) dX7_settle_24 (Nat.le_of_ble_eq_true rfl) rfl ?_
    exact (h.1 c1)
  · refine r_aload_n dX7_settle_8 rfl ?_
    refine r_getS (v := 42) dX7_settle_9 kF7_9 (sh_o hS kk41 (by decide)) (st_f0 hS (by decide)) ?_
    refine r_iload_n dX7_settle_12 rfl ?_
    refine r_iconst dX7_settle_13 (by decide) ?_
    refine r_invS_v dX7_settle_14 (by decide) kXn7_33 kM7_33 (by decide) (Nat.le_of_ble_eq_true rfl) rfl rfl (Nat.le_of_ble_eq_true rfl) (Nat.le_of_ble_eq_true rfl) (c_put (by omega) (sh_r hS kk42 (by decide)) (by decide) ⟨rfl, ?_⟩)
    have K5 : ∀ N2 : jM, N2 = (ptv M 32 42 l2 (-1 : Int)) → Run (e + 1) mX7_settle 17 [some (vR 41), some (vR 9), some (vI l2), l3] [] N2 Q := by
      intro N2 hN4
      have sN3 : Shp N2 := by rw [hN4]; exact hS
      refine r_iinc (ls2 := [some (vR 41), some (vR 9), some (vI (w32 (l2 + (1 : Int)))), l3]) dX7_settle_17 rfl rfl ?_
      refine r_goto (tgt := 2) dX7_settle_20 rfl ?_
      exact ((h.2 c1) N2 hN4 sN3)
    exact K5 _ rfl
theorem vj_settle_25 {e : Nat} {M : jM} {Q : Option jV → jM → Prop} {l2 : Int} {l3 : Option jV}  (he : 4 ≤ e) (hS : Shp M)
  (h : (((iv M 9 7) ≤ l2) → (∀ N7 : jM, N7 = (cpr M 12 47 8) → Shp N7 → (∀ N9 : jM, N9 = (si N7 41 7 (atv N7 4 11 (0 : Int))) → Shp N9 → (∀ N11 : jM, N11 = (si N9 41 8 (atv N9 4 11 (3 : Int))) → Shp N11 → (∀ N13 : jM, N13 = (si N11 41 9 (0 : Int)) → Shp N13 → (Q none N13)))))) ∧ (¬ ((iv M 9 7) ≤ l2) → (Call e mX2_toldAhead [vR 9, vI l2] M (fun r18 M16 => ∃ z15 : Int, r18 = some (vI z15) ∧ Shp M16 ∧ (Call e mX7_lay [vR 41, vI (atv M16 12 15 l2), vI z15, vI (atv M16 12 16 l2), vI (atv M16 12 17 l2), vI (atv M16 12 18 l2)] M16 (fun r23 M21 => r23 = none ∧ Shp M21 ∧ (Run (e + 1) mX7_settle 25 [some (vR 41), some (vR 9), some (vI (w32 (l2 + (1 : Int)))), some (vI z15)] [] M21 Q))))))) :
  Run (e + 1) mX7_settle 25 [some (vR 41), some (vR 9), some (vI l2), l3] [] M Q := by
  refine r_iload_n dX7_settle_25 rfl ?_
  refine r_aload_n dX7_settle_26 rfl ?_
  refine r_get0 dX7_settle_27 kF7_37 (sh_o hS kk9 (by decide)) ?_
  refine r_icmp_ge dX7_settle_30 rfl (fun c6 => ?_) (fun c6 => ?_)
  · refine r_aload_n dX7_settle_82 rfl ?_
    refine r_getS (v := 12) dX7_settle_83 kF7_61 (sh_o hS kk9 (by decide)) (sh_f hS rr9_4 (by decide)) ?_
    refine r_aload_n dX7_settle_86 rfl ?_
    refine r_getS (v := 47) dX7_settle_87 kF7_27 (sh_o hS kk41 (by decide)) (st_f5 hS (by decide)) ?_
    refine r_invS_v dX7_settle_90 (by decide) kXn7_62 kM7_62 (by decide) (Nat.le_of_ble_eq_true rfl) rfl rfl (Nat.le_of_ble_eq_true rfl) (Nat.le_of_ble_eq_true rfl) (c_copyRow (by omega) (sh_r hS kk12 (by decide)) (sh_r hS kk47 (by decide)) (by decide) (by decide) ⟨rfl, ?_⟩)
    have K26 : ∀ N7 : jM, N7 = (cpr M 12 47 8) → Run (e + 1) mX7_settle 93 [some (vR 41), some (vR 9), some (vI l2), l3] [] N7 Q := by
      intro N7 hN25
      have sN8 : Shp N7 := by rw [hN25]; exact hS
      refine r_aload_n dX7_settle_93 rfl ?_
      refine r_aload_n dX7_settle_94 rfl ?_
      refine r_getS (v := 11) dX7_settle_95 kF7_66 (sh_o sN8 kk9 (by decide)) (sh_f sN8 rr9_1 (by decide)) ?_
      refine r_iconst dX7_settle_98 (by decide) ?_
      refine r_invS_i dX7_settle_99 (by decide) kXn7_50 kM7_50 (by decide) (Nat.le_of_ble_eq_true rfl) rfl rfl (Nat.le_of_ble_eq_true rfl) (Nat.le_of_ble_eq_true rfl) (c_at (by omega) (sh_r sN8 kk11 (by decide)) ⟨_, rfl, ?_⟩)
      refine r_put0 dX7_settle_102 kF7_69 (sh_o sN8 kk41 (by decide)) (Or.inl rfl) ?_
      have K28 : ∀ N9 : jM, N9 = (si N7 41 7 (atv N7 4 11 (0 : Int))) → Run (e + 1) mX7_settle 105 [some (vR 41), some (vR 9), some (vI l2), l3] [] N9 Q := by
        intro N9 hN27
        have sN10 : Shp N9 := by rw [hN27]; exact sN8
        refine r_aload_n dX7_settle_105 rfl ?_
        refine r_aload_n dX7_settle_106 rfl ?_
        refine r_getS (v := 11) dX7_settle_107 kF7_66 (sh_o sN10 kk9 (by decide)) (sh_f sN10 rr9_1 (by decide)) ?_
        refine r_iconst dX7_settle_110 (by decide) ?_
        refine r_invS_i dX7_settle_111 (by decide) kXn7_50 kM7_50 (by decide) (Nat.le_of_ble_eq_true rfl) rfl rfl (Nat.le_of_ble_eq_true rfl) (Nat.le_of_ble_eq_true rfl) (c_at (by omega) (sh_r sN10 kk11 (by decide)) ⟨_, rfl, ?_⟩)
        refine r_put0 dX7_settle_114 kF7_72 (sh_o sN10 kk41 (by decide)) (Or.inl rfl) ?_
        have K30 : ∀ N11 : jM, N11 = (si N9 41 8 (atv N9 4 11 (3 : Int))) → Run (e + 1) mX7_settle 117 [some (vR 41), some (vR 9), some (vI l2), l3] [] N11 Q := by
          intro N11 hN29
          have sN12 : Shp N11 := by rw [hN29]; exact sN10
          refine r_aload_n dX7_settle_117 rfl ?_
          refine r_iconst dX7_settle_118 (by decide) ?_
          refine r_put0 dX7_settle_119 kF7_75 (sh_o sN12 kk41 (by decide)) (Or.inl rfl) ?_
          have K32 : ∀ N13 : jM, N13 = (si N11 41 9 (0 : Int)) → Run (e + 1) mX7_settle 122 [some (vR 41), some (vR 9), some (vI l2), l3] [] N13 Q := by
            intro N13 hN31
            have sN14 : Shp N13 := by rw [hN31]; exact sN12
            exact r_vret dX7_settle_122 rfl (((((h.1 c6) N7 hN25 sN8) N9 hN27 sN10) N11 hN29 sN12) N13 hN31 sN14)
          exact K32 _ rfl
        exact K30 _ rfl
      exact K28 _ rfl
    exact K26 _ rfl
  · refine r_aload_n dX7_settle_33 rfl ?_
    refine r_iload_n dX7_settle_34 rfl ?_
    refine r_invV_i dX7_settle_35 kM7_43 (by decide) (Nat.le_of_ble_eq_true rfl) rfl rfl (Nat.le_of_ble_eq_true rfl) (Nat.le_of_ble_eq_true rfl) (sh_o hS kk9 (by decide)) (Call.mono (h.2 c6) (Nat.le_refl _) ?_)
    rintro _ M16 ⟨z15, rfl, s19, h17⟩
    refine ⟨_, rfl, ?_⟩
    refine r_istore_n (ls2 := [some (vR 41), some (vR 9), some (vI l2), some (vI z15)]) dX7_settle_38 (Nat.le_of_ble_eq_true rfl) rfl ?_
    refine r_aload_n dX7_settle_39 rfl ?_
    refine r_aload_n dX7_settle_40 rfl ?_
    refine r_getS (v := 15) dX7_settle_41 kF7_47 (sh_o s19 kk9 (by decide)) (sh_f s19 rr9_8 (by decide)) ?_
    refine r_iload_n dX7_settle_44 rfl ?_
    refine r_invS_i dX7_settle_45 (by decide) kXn7_50 kM7_50 (by decide) (Nat.le_of_ble_eq_true rfl) rfl rfl (Nat.le_of_ble_eq_true rfl) (Nat.le_of_ble_eq_true rfl) (c_at (by omega) (sh_r s19 kk15 (by decide)) ⟨_, rfl, ?_⟩)
    refine r_iload_n dX7_settle_48 rfl ?_
    refine r_aload_n dX7_settle_49 rfl ?_
    refine r_getS (v := 16) dX7_settle_50 kF7_54 (sh_o s19 kk9 (by decide)) (sh_f s19 rr9_9 (by decide)) ?_
    refine r_iload_n dX7_settle_53 rfl ?_
    refine r_invS_i dX7_settle_54 (by decide) kXn7_50 kM7_50 (by decide) (Nat.le_of_ble_eq_true rfl) rfl rfl (Nat.le_of_ble_eq_true rfl) (Nat.le_of_ble_eq_true rfl) (c_at (by omega) (sh_r s19 kk16 (by decide)) ⟨_, rfl, ?_⟩)
    refine r_aload_n dX7_settle_57 rfl ?_
    refine r_getS (v := 17) dX7_settle_58 kF7_55 (sh_o s19 kk9 (by decide)) (sh_f s19 rr9_10 (by decide)) ?_
    refine r_iload_n dX7_settle_61 rfl ?_
    refine r_invS_i dX7_settle_62 (by decide) kXn7_50 kM7_50 (by decide) (Nat.le_of_ble_eq_true rfl) rfl rfl (Nat.le_of_ble_eq_true rfl) (Nat.le_of_ble_eq_true rfl) (c_at (by omega) (sh_r s19 kk17 (by decide)) ⟨_, rfl, ?_⟩)
    refine r_aload_n dX7_settle_65 rfl ?_
    refine r_getS (v := 18) dX7_settle_66 kF7_56 (sh_o s19 kk9 (by decide)) (sh_f s19 rr9_11 (by decide)) ?_
    refine r_iload_n dX7_settle_69 rfl ?_
    refine r_invS_i dX7_settle_70 (by decide) kXn7_50 kM7_50 (by decide) (Nat.le_of_ble_eq_true rfl) rfl rfl (Nat.le_of_ble_eq_true rfl) (Nat.le_of_ble_eq_true rfl) (c_at (by omega) (sh_r s19 kk18 (by decide)) ⟨_, rfl, ?_⟩)
    refine r_invV_v dX7_settle_73 kM7_57 (by decide) (Nat.le_of_ble_eq_true rfl) rfl rfl (Nat.le_of_ble_eq_true rfl) (Nat.le_of_ble_eq_true rfl) (sh_o s19 kk41 (by decide)) (Call.mono h17 (Nat.le_refl _) ?_)
    rintro _ M21 ⟨rfl, s24, h22⟩
    refine ⟨rfl, ?_⟩
    refine r_iinc (ls2 := [some (vR 41), some (vR 9), some (vI (w32 (l2 + (1 : Int)))), some (vI z15)]) dX7_settle_76 rfl rfl ?_
    refine r_goto (tgt := 25) dX7_settle_79 rfl ?_
    exact h22
theorem vx_settle {e : Nat} {M : jM} {Q : Option jV → jM → Prop}  (he : 4 ≤ e) (hS : Shp M)
  (h : ∀ N1 : jM, N1 = (si M 7 1 (0 : Int)) → Shp N1 → (Call e mX1_settle [vR 29, vR 9] N1 (fun r6 M4 => r6 = none ∧ Shp M4 ∧ (Call e mX7_settle [vR 41, vR 9] M4 (fun r11 M9 => r11 = none ∧ Shp M9 ∧ (Call e mX7_copyAll [vR 33, vR 41] M9 (fun r16 M14 => r16 = none ∧ Shp M14 ∧ (Call e mX5_clear [vR 65] M14 (fun r21 M19 => r21 = none ∧ Shp M19 ∧ (Call e mX6_clear [vR 387] M19 (fun r26 M24 => r26 = none ∧ Shp M24 ∧ (∀ N28 : jM, N28 = (si M24 6 14 (0 : Int)) → Shp N28 → (Q (some (vI (iv N28 29 0))) N28))))))))))))) :
  Call (e + 1) mX10_settle [vR 6] M Q := by
  show Run (e + 1) mX10_settle 0 [some (vR 6)] [] M Q
  refine r_aload_n dX10_settle_0 rfl ?_
  refine r_getS (v := 7) dX10_settle_1 kF10_10 (sh_o hS kk6 (by decide)) (sh_f hS rr6_0 (by decide)) ?_
  refine r_iconst dX10_settle_4 (by decide) ?_
  refine r_put0 dX10_settle_5 kF10_105 (sh_o hS kk7 (by decide)) (Or.inl rfl) ?_
  have K31 : ∀ N1 : jM, N1 = (si M 7 1 (0 : Int)) → Run (e + 1) mX10_settle 8 [some (vR 6)] [] N1 Q := by
    intro N1 hN30
    have sN2 : Shp N1 := by rw [hN30]; exact hS
    refine r_aload_n dX10_settle_8 rfl ?_
    refine r_getS (v := 29) dX10_settle_9 kF10_50 (sh_o sN2 kk6 (by decide)) (sh_f sN2 rr6_9 (by decide)) ?_
    refine r_aload_n dX10_settle_12 rfl ?_
    refine r_getS (v := 9) dX10_settle_13 kF10_19 (sh_o sN2 kk6 (by decide)) (sh_f sN2 rr6_1 (by decide)) ?_
    refine r_invV_v dX10_settle_16 kM10_130 (by decide) (Nat.le_of_ble_eq_true rfl) rfl rfl (Nat.le_of_ble_eq_true rfl) (Nat.le_of_ble_eq_true rfl) (sh_o sN2 kk29 (by decide)) (Call.mono (h N1 hN30 sN2) (Nat.le_refl _) ?_)
    rintro _ M4 ⟨rfl, s7, h5⟩
    refine ⟨rfl, ?_⟩
    refine r_aload_n dX10_settle_19 rfl ?_
    refine r_getS (v := 41) dX10_settle_20 kF10_61 (sh_o s7 kk6 (by decide)) (sh_f s7 rr6_11 (by decide)) ?_
    refine r_aload_n dX10_settle_23 rfl ?_
    refine r_getS (v := 9) dX10_settle_24 kF10_19 (sh_o s7 kk6 (by decide)) (sh_f s7 rr6_1 (by decide)) ?_
    refine r_invV_v dX10_settle_27 kM10_133 (by decide) (Nat.le_of_ble_eq_true rfl) rfl rfl (Nat.le_of_ble_eq_true rfl) (Nat.le_of_ble_eq_true rfl) (sh_o s7 kk41 (by decide)) (Call.mono h5 (Nat.le_refl _) ?_)
    rintro _ M9 ⟨rfl, s12, h10⟩
    refine ⟨rfl, ?_⟩
    refine r_aload_n dX10_settle_30 rfl ?_
    refine r_getS (v := 33) dX10_settle_31 kF10_57 (sh_o s12 kk6 (by decide)) (sh_f s12 rr6_10 (by decide)) ?_
    refine r_aload_n dX10_settle_34 rfl ?_
    refine r_getS (v := 41) dX10_settle_35 kF10_61 (sh_o s12 kk6 (by decide)) (sh_f s12 rr6_11 (by decide)) ?_
    refine r_invV_v dX10_settle_38 kM10_134 (by decide) (Nat.le_of_ble_eq_true rfl) rfl rfl (Nat.le_of_ble_eq_true rfl) (Nat.le_of_ble_eq_true rfl) (sh_o s12 kk33 (by decide)) (Call.mono h10 (Nat.le_refl _) ?_)
    rintro _ M14 ⟨rfl, s17, h15⟩
    refine ⟨rfl, ?_⟩
    refine r_aload_n dX10_settle_41 rfl ?_
    refine r_getS (v := 65) dX10_settle_42 kF10_73 (sh_o s17 kk6 (by decide)) (sh_f s17 rr6_15 (by decide)) ?_
    refine r_invV_v dX10_settle_45 kM10_138 (by decide) (Nat.le_of_ble_eq_true rfl) rfl rfl (Nat.le_of_ble_eq_true rfl) (Nat.le_of_ble_eq_true rfl) (sh_o s17 kk65 (by decide)) (Call.mono h15 (Nat.le_refl _) ?_)
    rintro _ M19 ⟨rfl, s22, h20⟩
    refine ⟨rfl, ?_⟩
    refine r_aload_n dX10_settle_48 rfl ?_
    refine r_getS (v := 387) dX10_settle_49 kF10_80 (sh_o s22 kk6 (by decide)) (sh_f s22 rr6_16 (by decide)) ?_
    refine r_invV_v dX10_settle_52 kM10_141 (by decide) (Nat.le_of_ble_eq_true rfl) rfl rfl (Nat.le_of_ble_eq_true rfl) (Nat.le_of_ble_eq_true rfl) (sh_o s22 kk387 (by decide)) (Call.mono h20 (Nat.le_refl _) ?_)
    rintro _ M24 ⟨rfl, s27, h25⟩
    refine ⟨rfl, ?_⟩
    refine r_aload_n dX10_settle_55 rfl ?_
    refine r_iconst dX10_settle_56 (by decide) ?_
    refine r_put3 dX10_settle_57 kF10_142 (sh_o s27 kk6 (by decide)) (Or.inl rfl) (by decide) ?_
    have K33 : ∀ N28 : jM, N28 = (si M24 6 14 (0 : Int)) → Run (e + 1) mX10_settle 60 [some (vR 6)] [] N28 Q := by
      intro N28 hN32
      have sN29 : Shp N28 := by rw [hN32]; exact s27
      refine r_aload_n dX10_settle_60 rfl ?_
      refine r_getS (v := 29) dX10_settle_61 kF10_50 (sh_o sN29 kk6 (by decide)) (sh_f sN29 rr6_9 (by decide)) ?_
      refine r_get0 dX10_settle_64 kF10_146 (sh_o sN29 kk29 (by decide)) ?_
      exact r_iret dX10_settle_67 rfl (h25 N28 hN32 sN29)
    exact K33 _ rfl
  exact K31 _ rfl
theorem vx_feed {e : Nat} {M : jM} {Q : Option jV → jM → Prop} {x : Int} {y : Int} {z : Int} {u : Int} {v : Int} (he : 4 ≤ e) (hS : Shp M)
  (h : Call e mX10_signsOf [vI x] M (fun r4 M2 => ∃ z1 : Int, r4 = some (vI z1) ∧ Shp M2 ∧ (Call e mX10_signsOf [vI y] M2 (fun r9 M7 => ∃ z6 : Int, r9 = some (vI z6) ∧ Shp M7 ∧ (Call e mX10_signsOf [vI z] M7 (fun r14 M12 => ∃ z11 : Int, r14 = some (vI z11) ∧ Shp M12 ∧ (Call e mX10_signsOf [vI u] M12 (fun r19 M17 => ∃ z16 : Int, r19 = some (vI z16) ∧ Shp M17 ∧ (Call e mX10_signsOf [vI v] M17 (fun r24 M22 => ∃ z21 : Int, r24 = some (vI z21) ∧ Shp M22 ∧ (∀ v26 : Int, v26 = (w32 ((iv M22 7 1) + (w32 ((w32 ((w32 ((w32 (z1 + z6)) + z11)) + z16)) + z21)))) → (((v26 ≤ (240 : Int)) → (Call e mX8_append [vR 7, vI x] M22 (fun r31 M29 => r31 = none ∧ Shp M29 ∧ (Call e mX8_append [vR 7, vI y] M29 (fun r36 M34 => r36 = none ∧ Shp M34 ∧ (Call e mX8_append [vR 7, vI z] M34 (fun r41 M39 => r41 = none ∧ Shp M39 ∧ (Call e mX8_append [vR 7, vI u] M39 (fun r46 M44 => r46 = none ∧ Shp M44 ∧ (Call e mX8_append [vR 7, vI v] M44 (fun r51 M49 => r51 = none ∧ Shp M49 ∧ (Q (some (vI (iv M49 7 1))) M49)))))))))))) ∧ (¬ (v26 ≤ (240 : Int)) → (Q (some (vI (-1 : Int))) M22)))))))))))))) :
  Call (e + 1) mX10_feed [vR 6, vI x, vI y, vI z, vI u, vI v] M Q := by
  show Run (e + 1) mX10_feed 0 [some (vR 6), some (vI x), some (vI y), some (vI z), some (vI u), some (vI v), none] [] M Q
  refine r_iload_n dX10_feed_0 rfl ?_
  refine r_invS_i dX10_feed_1 (by decide) kXn10_101 kM10_101 (by decide) (Nat.le_of_ble_eq_true rfl) rfl rfl (Nat.le_of_ble_eq_true rfl) (Nat.le_of_ble_eq_true rfl) (Call.mono h (Nat.le_refl _) ?_)
  rintro _ M2 ⟨z1, rfl, s5, h3⟩
  refine ⟨_, rfl, ?_⟩
  refine r_iload_n dX10_feed_4 rfl ?_
  refine r_invS_i dX10_feed_5 (by decide) kXn10_101 kM10_101 (by decide) (Nat.le_of_ble_eq_true rfl) rfl rfl (Nat.le_of_ble_eq_true rfl) (Nat.le_of_ble_eq_true rfl) (Call.mono h3 (Nat.le_refl _) ?_)
  rintro _ M7 ⟨z6, rfl, s10, h8⟩
  refine ⟨_, rfl, ?_⟩
  refine r_iadd dX10_feed_8 ?_
  refine r_iload_n dX10_feed_9 rfl ?_
  refine r_invS_i dX10_feed_10 (by decide) kXn10_101 kM10_101 (by decide) (Nat.le_of_ble_eq_true rfl) rfl rfl (Nat.le_of_ble_eq_true rfl) (Nat.le_of_ble_eq_true rfl) (Call.mono h8 (Nat.le_refl _) ?_)
  rintro _ M12 ⟨z11, rfl, s15, h13⟩
  refine ⟨_, rfl, ?_⟩
  refine r_iadd dX10_feed_13 ?_
  refine r_iload dX10_feed_14 rfl ?_
  refine r_invS_i dX10_feed_16 (by decide) kXn10_101 kM10_101 (by decide) (Nat.le_of_ble_eq_true rfl) rfl rfl (Nat.le_of_ble_eq_true rfl) (Nat.le_of_ble_eq_true rfl) (Call.mono h13 (Nat.le_refl _) ?_)
  rintro _ M17 ⟨z16, rfl, s20, h18⟩
  refine ⟨_, rfl, ?_⟩
  refine r_iadd dX10_feed_19 ?_
  refine r_iload dX10_feed_20 rfl ?_
  refine r_invS_i dX10_feed_22 (by decide) kXn10_101 kM10_101 (by decide) (Nat.le_of_ble_eq_true rfl) rfl rfl (Nat.le_of_ble_eq_true rfl) (Nat.le_of_ble_eq_true rfl) (Call.mono h18 (Nat.le_refl _) ?_)
  rintro _ M22 ⟨z21, rfl, s25, h23⟩
  refine ⟨_, rfl, ?_⟩
  refine r_iadd dX10_feed_25 ?_
  refine r_istore (ls2 := [some (vR 6), some (vI x), some (vI y), some (vI z), some (vI u), some (vI v), some (vI (w32 ((w32 ((w32 ((w32 (z1 + z6)) + z11)) + z16)) + z21)))]) dX10_feed_26 (Nat.le_of_ble_eq_true rfl) rfl ?_
  refine r_aload_n dX10_feed_28 rfl ?_
  refine r_getS (v := 7) dX10_feed_29 kF10_10 (sh_o s25 kk6 (by decide)) (sh_f s25 rr6_0 (by decide)) ?_
  refine r_get0 dX10_feed_32 kF10_105 (sh_o s25 kk7 (by decide)) ?_
  refine r_iload dX10_feed_35 rfl ?_
  refine r_iadd dX10_feed_37 ?_
  have K54 : ∀ v26 : Int, v26 = (w32 ((iv M22 7 1) + (w32 ((w32 ((w32 ((w32 (z1 + z6)) + z11)) + z16)) + z21)))) → Run (e + 1) mX10_feed 38 [some (vR 6), some (vI x), some (vI y), some (vI z), some (vI u), some (vI v), some (vI (w32 ((w32 ((w32 ((w32 (z1 + z6)) + z11)) + z16)) + z21)))] [vI v26] M22 Q := by
    intro v26 hv53
    refine r_sipush dX10_feed_38 (by decide) ?_
    refine r_icmp_le dX10_feed_41 rfl (fun c27 => ?_) (fun c27 => ?_)
    · refine r_aload_n dX10_feed_46 rfl ?_
      refine r_getS (v := 7) dX10_feed_47 kF10_10 (sh_o s25 kk6 (by decide)) (sh_f s25 rr6_0 (by decide)) ?_
      refine r_iload_n dX10_feed_50 rfl ?_
      refine r_invV_v dX10_feed_51 kM10_108 (by decide) (Nat.le_of_ble_eq_true rfl) rfl rfl (Nat.le_of_ble_eq_true rfl) (Nat.le_of_ble_eq_true rfl) (sh_o s25 kk7 (by decide)) (Call.mono ((h23 v26 hv53).1 c27) (Nat.le_refl _) ?_)
      rintro _ M29 ⟨rfl, s32, h30⟩
      refine ⟨rfl, ?_⟩
      refine r_aload_n dX10_feed_54 rfl ?_
      refine r_getS (v := 7) dX10_feed_55 kF10_10 (sh_o s32 kk6 (by decide)) (sh_f s32 rr6_0 (by decide)) ?_
      refine r_iload_n dX10_feed_58 rfl ?_
      refine r_invV_v dX10_feed_59 kM10_108 (by decide) (Nat.le_of_ble_eq_true rfl) rfl rfl (Nat.le_of_ble_eq_true rfl) (Nat.le_of_ble_eq_true rfl) (sh_o s32 kk7 (by decide)) (Call.mono h30 (Nat.le_refl _) ?_)
      rintro _ M34 ⟨rfl, s37, h35⟩
      refine ⟨rfl, ?_⟩
      refine r_aload_n dX10_feed_62 rfl ?_
      refine r_getS (v := 7) dX10_feed_63 kF10_10 (sh_o s37 kk6 (by decide)) (sh_f s37 rr6_0 (by decide)) ?_
      refine r_iload_n dX10_feed_66 rfl ?_
      refine r_invV_v dX10_feed_67 kM10_108 (by decide) (Nat.le_of_ble_eq_true rfl) rfl rfl (Nat.le_of_ble_eq_true rfl) (Nat.le_of_ble_eq_true rfl) (sh_o s37 kk7 (by decide)) (Call.mono h35 (Nat.le_refl _) ?_)
      rintro _ M39 ⟨rfl, s42, h40⟩
      refine ⟨rfl, ?_⟩
      refine r_aload_n dX10_feed_70 rfl ?_
      refine r_getS (v := 7) dX10_feed_71 kF10_10 (sh_o s42 kk6 (by decide)) (sh_f s42 rr6_0 (by decide)) ?_
      refine r_iload dX10_feed_74 rfl ?_
      refine r_invV_v dX10_feed_76 kM10_108 (by decide) (Nat.le_of_ble_eq_true rfl) rfl rfl (Nat.le_of_ble_eq_true rfl) (Nat.le_of_ble_eq_true rfl) (sh_o s42 kk7 (by decide)) (Call.mono h40 (Nat.le_refl _) ?_)
      rintro _ M44 ⟨rfl, s47, h45⟩
      refine ⟨rfl, ?_⟩
      refine r_aload_n dX10_feed_79 rfl ?_
      refine r_getS (v := 7) dX10_feed_80 kF10_10 (sh_o s47 kk6 (by decide)) (sh_f s47 rr6_0 (by decide)) ?_
      refine r_iload dX10_feed_83 rfl ?_
      refine r_invV_v dX10_feed_85 kM10_108 (by decide) (Nat.le_of_ble_eq_true rfl) rfl rfl (Nat.le_of_ble_eq_true rfl) (Nat.le_of_ble_eq_true rfl) (sh_o s47 kk7 (by decide)) (Call.mono h45 (Nat.le_refl _) ?_)
      rintro _ M49 ⟨rfl, s52, h50⟩
      refine ⟨rfl, ?_⟩
      refine r_aload_n dX10_feed_88 rfl ?_
      refine r_getS (v := 7) dX10_feed_89 kF10_10 (sh_o s52 kk6 (by decide)) (sh_f s52 rr6_0 (by decide)) ?_
      refine r_get0 dX10_feed_92 kF10_105 (sh_o s52 kk7 (by decide)) ?_
      exact r_iret dX10_feed_95 rfl h50
    · refine r_iconst dX10_feed_44 (by decide) ?_
      exact r_iret dX10_feed_45 rfl ((h23 v26 hv53).2 c27)
  exact K54 _ rfl
theorem vx_end {e : Nat} {M : jM} {Q : Option jV → jM → Prop} {n : Int} (he : 4 ≤ e) (hS : Shp M)
  (h : ((n < (0 : Int)) → (Q (some (vI (0 : Int))) M)) ∧ (¬ (n < (0 : Int)) → (((n ≤ (iv M 7 1)) → (∀ N3 : jM, N3 = (si M 7 1 n) → Shp N3 → (Q (some (vI (1 : Int))) N3))) ∧ (¬ (n ≤ (iv M 7 1)) → (Q (some (vI (0 : Int))) M))))) :
  Call (e + 1) mX10_end [vR 6, vI n] M Q := by
  show Run (e + 1) mX10_end 0 [some (vR 6), some (vI n)] [] M Q
  refine r_iload_n dX10_end_0 rfl ?_
  refine r_if_lt dX10_end_1 rfl (fun c1 => ?_) (fun c1 => ?_)
  · refine r_iconst dX10_end_15 (by decide) ?_
    exact r_zret dX10_end_16 rfl (by decide) (h.1 c1)
  · refine r_iload_n dX10_end_4 rfl ?_
    refine r_aload_n dX10_end_5 rfl ?_
    refine r_getS (v := 7) dX10_end_6 kF10_10 (sh_o hS kk6 (by decide)) (sh_f hS rr6_0 (by decide)) ?_
    refine r_get0 dX10_end_9 kF10_105 (sh_o hS kk7 (by decide)) ?_
    refine r_icmp_le dX10_end_12 rfl (fun c2 => ?_) (fun c2 => ?_)
    · refine r_aload_n dX10_end_17 rfl ?_
      refine r_getS (v := 7) dX10_end_18 kF10_10 (sh_o hS kk6 (by decide)) (sh_f hS rr6_0 (by decide)) ?_
      refine r_iload_n dX10_end_21 rfl ?_
      refine r_put0 dX10_end_22 kF10_105 (sh_o hS kk7 (by decide)) (Or.inl rfl) ?_
      have K6 : ∀ N3 : jM, N3 = (si M 7 1 n) → Run (e + 1) mX10_end 25 [some (vR 6), some (vI n)] [] N3 Q := by
        intro N3 hN5
        have sN4 : Shp N3 := by rw [hN5]; exact hS
        refine r_iconst dX10_end_25 (by decide) ?_
        exact r_zret dX10_end_26 rfl (by decide) (((h.2 c1).1 c2) N3 hN5 sN4)
      exact K6 _ rfl
    · refine r_iconst dX10_end_15 (by decide) ?_
      exact r_zret dX10_end_16 rfl (by decide) ((h.2 c1).2 c2)
theorem vx_fault {e : Nat} {M : jM} {Q : Option jV → jM → Prop} {st : Int} (he : 4 ≤ e) (hS : Shp M)
  (h : ((st ≠ (0 : Int)) → (((st ≠ (1 : Int)) → (Q (some (vI (-2 : Int))) M)) ∧ (¬ (st ≠ (1 : Int)) → (Call e mX4_read [vR 19, vR 7] M (fun r6 M4 => ∃ z3 : Int, r6 = some (vI z3) ∧ Shp M4 ∧ (Q (some (vI (iv M4 7 3))) M4)))))) ∧ (¬ (st ≠ (0 : Int)) → (Call e mX2_read [vR 9, vR 7] M (fun r11 M9 => ∃ z8 : Int, r11 = some (vI z8) ∧ Shp M9 ∧ (Q (some (vI (iv M9 7 3))) M9))))) :
  Call (e + 1) mX10_fault [vR 6, vI st] M Q := by
  show Run (e + 1) mX10_fault 0 [some (vR 6), some (vI st)] [] M Q
  refine r_iload_n dX10_fault_0 rfl ?_
  refine r_if_ne dX10_fault_1 rfl (fun c1 => ?_) (fun c1 => ?_)
  · refine r_iload_n dX10_fault_24 rfl ?_
    refine r_iconst dX10_fault_25 (by decide) ?_
    refine r_icmp_ne dX10_fault_26 rfl (fun c2 => ?_) (fun c2 => ?_)
    · refine r_bipush dX10_fault_49 (by decide) ?_
      exact r_iret dX10_fault_51 rfl ((h.1 c1).1 c2)
    · refine r_aload_n dX10_fault_29 rfl ?_
      refine r_getS (v := 19) dX10_fault_30 kF10_26 (sh_o hS kk6 (by decide)) (sh_f hS rr6_2 (by decide)) ?_
      refine r_aload_n dX10_fault_33 rfl ?_
      refine r_getS (v := 7) dX10_fault_34 kF10_10 (sh_o hS kk6 (by decide)) (sh_f hS rr6_0 (by decide)) ?_
      refine r_invV_i dX10_fault_37 kM10_119 (by decide) (Nat.le_of_ble_eq_true rfl) rfl rfl (Nat.le_of_ble_eq_true rfl) (Nat.le_of_ble_eq_true rfl) (sh_o hS kk19 (by decide)) (Call.mono ((h.1 c1).2 c2) (Nat.le_refl _) ?_)
      rintro _ M4 ⟨z3, rfl, s7, h5⟩
      refine ⟨_, rfl, ?_⟩
      refine r_popI dX10_fault_40 ?_
      refine r_aload_n dX10_fault_41 rfl ?_
      refine r_getS (v := 7) dX10_fault_42 kF10_10 (sh_o s7 kk6 (by decide)) (sh_f s7 rr6_0 (by decide)) ?_
      refine r_get0 dX10_fault_45 kF10_116 (sh_o s7 kk7 (by decide)) ?_
      exact r_iret dX10_fault_48 rfl h5
  · refine r_aload_n dX10_fault_4 rfl ?_
    refine r_getS (v := 9) dX10_fault_5 kF10_19 (sh_o hS kk6 (by decide)) (sh_f hS rr6_1 (by decide)) ?_
    refine r_aload_n dX10_fault_8 rfl ?_
    refine r_getS (v := 7) dX10_fault_9 kF10_10 (sh_o hS kk6 (by decide)) (sh_f hS rr6_0 (by decide)) ?_
    refine r_invV_i dX10_fault_12 kM10_112 (by decide) (Nat.le_of_ble_eq_true rfl) rfl rfl (Nat.le_of_ble_eq_true rfl) (Nat.le_of_ble_eq_true rfl) (sh_o hS kk9 (by decide)) (Call.mono (h.2 c1) (Nat.le_refl _) ?_)
    rintro _ M9 ⟨z8, rfl, s12, h10⟩
    refine ⟨_, rfl, ?_⟩
    refine r_popI dX10_fault_15 ?_
    refine r_aload_n dX10_fault_16 rfl ?_
    refine r_getS (v := 7) dX10_fault_17 kF10_10 (sh_o s12 kk6 (by decide)) (sh_f s12 rr6_0 (by decide)) ?_
    refine r_get0 dX10_fault_20 kF10_116 (sh_o s12 kk7 (by decide)) ?_
    exact r_iret dX10_fault_23 rfl h10
theorem vx_text {e : Nat} {M : jM} {Q : Option jV → jM → Prop} {st : Int} (he : 4 ≤ e) (hS : Shp M)
  (h : ((st ≠ (0 : Int)) → (((st ≠ (1 : Int)) → (Q (some (vI (-1 : Int))) M)) ∧ (¬ (st ≠ (1 : Int)) → ((((4 : Int) ≤ (iv M 6 4)) → (Q (some (vI (-1 : Int))) M)) ∧ (¬ ((4 : Int) ≤ (iv M 6 4)) → (Call e mX4_read [vR 19, vR 7] M (fun r7 M5 => ∃ z4 : Int, r7 = some (vI z4) ∧ Shp M5 ∧ (((z4 = (0 : Int)) → (Q (some (vI (-1 : Int))) M5)) ∧ (¬ (z4 = (0 : Int)) → (Call e mX10_enact [vR 6] M5 (fun r13 M11 => ∃ z10 : Int, r13 = some (vI z10) ∧ Shp M11 ∧ (Q (some (vI z10)) M11)))))))))))) ∧ (¬ (st ≠ (0 : Int)) → (Call e mX2_read [vR 9, vR 7] M (fun r18 M16 => ∃ z15 : Int, r18 = some (vI z15) ∧ Shp M16 ∧ (((z15 = (0 : Int)) → (((st ≠ (1 : Int)) → (Q (some (vI (-1 : Int))) M16)) ∧ (¬ (st ≠ (1 : Int)) → ((((4 : Int) ≤ (iv M16 6 4)) → (Q (some (vI (-1 : Int))) M16)) ∧ (¬ ((4 : Int) ≤ (iv M16 6 4)) → (Call e mX4_read [vR 19, vR 7] M16 (fun r26 M24 => ∃ z23 : Int, r26 = some (vI z23) ∧ Shp M24 ∧ (((z23 = (0 : Int)) → (Q (some (vI (-1 : Int))) M24)) ∧ (¬ (z23 = (0 : Int)) → (Call e mX10_enact [vR 6] M24 (fun r32 M30 => ∃ z29 : Int, r32 = some (vI z29) ∧ Shp M30 ∧ (Q (some (vI z29)) M30)))))))))))) ∧ (¬ (z15 = (0 : Int)) → (Call e mX10_settle [vR 6] M16 (fun r37 M35 => ∃ z34 : Int, r37 = some (vI z34) ∧ Shp M35 ∧ (Q (some (vI z34)) M35))))))))) :
  Call (e + 1) mX10_text [vR 6, vI st] M Q := by
  show Run (e + 1) mX10_text 0 [some (vR 6), some (vI st)] [] M Q
  refine r_iload_n dX10_text_0 rfl ?_
  refine r_if_ne dX10_text_1 rfl (fun c1 => ?_) (fun c1 => ?_)
  · refine r_iload_n dX10_text_23 rfl ?_
    refine r_iconst dX10_text_24 (by decide) ?_
    refine r_icmp_ne dX10_text_25 rfl (fun c2 => ?_) (fun c2 => ?_)
    · refine r_iconst dX10_text_55 (by decide) ?_
      exact r_iret dX10_text_56 rfl ((h.1 c1).1 c2)
    · refine r_aload_n dX10_text_28 rfl ?_
      refine r_get0 dX10_text_29 kF10_124 (sh_o hS kk6 (by decide)) ?_
      refine r_iconst dX10_text_32 (by decide) ?_
      refine r_icmp_ge dX10_text_33 rfl (fun c3 => ?_) (fun c3 => ?_)
      · refine r_iconst dX10_text_55 (by decide) ?_
        exact r_iret dX10_text_56 rfl (((h.1 c1).2 c2).1 c3)
      · refine r_aload_n dX10_text_36 rfl ?_
        refine r_getS (v := 19) dX10_text_37 kF10_26 (sh_o hS kk6 (by decide)) (sh_f hS rr6_2 (by decide)) ?_
        refine r_aload_n dX10_text_40 rfl ?_
        refine r_getS (v := 7) dX10_text_41 kF10_10 (sh_o hS kk6 (by decide)) (sh_f hS rr6_0 (by decide)) ?_
        refine r_invV_i dX10_text_44 kM10_119 (by decide) (Nat.le_of_ble_eq_true rfl) rfl rfl (Nat.le_of_ble_eq_true rfl) (Nat.le_of_ble_eq_true rfl) (sh_o hS kk19 (by decide)) (Call.mono (((h.1 c1).2 c2).2 c3) (Nat.le_refl _) ?_)
        rintro _ M5 ⟨z4, rfl, s8, h6⟩
        refine ⟨_, rfl, ?_⟩
        refine r_if_eq dX10_text_47 rfl (fun c9 => ?_) (fun c9 => ?_)
        · refine r_iconst dX10_text_55 (by decide) ?_
          exact r_iret dX10_text_56 rfl (h6.1 c9)
        · refine r_aload_n dX10_text_50 rfl ?_
          refine r_invV_i dX10_text_51 kM10_127 (by decide) (Nat.le_of_ble_eq_true rfl) rfl rfl (Nat.le_of_ble_eq_true rfl) (Nat.le_of_ble_eq_true rfl) (sh_o s8 kk6 (by decide)) (Call.mono (h6.2 c9) (Nat.le_refl _) ?_)
          rintro _ M11 ⟨z10, rfl, s14, h12⟩
          refine ⟨_, rfl, ?_⟩
          exact r_iret dX10_text_54 rfl h12
  · refine r_aload_n dX10_text_4 rfl ?_
    refine r_getS (v := 9) dX10_text_5 kF10_19 (sh_o hS kk6 (by decide)) (sh_f hS rr6_1 (by decide)) ?_
    refine r_aload_n dX10_text_8 rfl ?_
    refine r_getS (v := 7) dX10_text_9 kF10_10 (sh_o hS kk6 (by decide)) (sh_f hS rr6_0 (by decide)) ?_
    refine r_invV_i dX10_text_12 kM10_112 (by decide) (Nat.le_of_ble_eq_true rfl) rfl rfl (Nat.le_of_ble_eq_true rfl) (Nat.le_of_ble_eq_true rfl) (sh_o hS kk9 (by decide)) (Call.mono (h.2 c1) (Nat.le_refl _) ?_)
    rintro _ M16 ⟨z15, rfl, s19, h17⟩
    refine ⟨_, rfl, ?_⟩
    refine r_if_eq dX10_text_15 rfl (fun c20 => ?_) (fun c20 => ?_)
    · refine r_iload_n dX10_text_23 rfl ?_
      refine r_iconst dX10_text_24 (by decide) ?_
      refine r_icmp_ne dX10_text_25 rfl (fun c21 => ?_) (fun c21 => ?_)
      · refine r_iconst dX10_text_55 (by decide) ?_
        exact r_iret dX10_text_56 rfl ((h17.1 c20).1 c21)
      · refine r_aload_n dX10_text_28 rfl ?_
        refine r_get0 dX10_text_29 kF10_124 (sh_o s19 kk6 (by decide)) ?_
        refine r_iconst dX10_text_32 (by decide) ?_
        refine r_icmp_ge dX10_text_33 rfl (fun c22 => ?_) (fun c22 => ?_)
        · refine r_iconst dX10_text_55 (by decide) ?_
          exact r_iret dX10_text_56 rfl (((h17.1 c20).2 c21).1 c22)
        · refine r_aload_n dX10_text_36 rfl ?_
          refine r_getS (v := 19) dX10_text_37 kF10_26 (sh_o s19 kk6 (by decide)) (sh_f s19 rr6_2 (by decide)) ?_
          refine r_aload_n dX10_text_40 rfl ?_
          refine r_getS (v := 7) dX10_text_41 kF10_10 (sh_o s19 kk6 (by decide)) (sh_f s19 rr6_0 (by decide)) ?_
          refine r_invV_i dX10_text_44 kM10_119 (by decide) (Nat.le_of_ble_eq_true rfl) rfl rfl (Nat.le_of_ble_eq_true rfl) (Nat.le_of_ble_eq_true rfl) (sh_o s19 kk19 (by decide)) (Call.mono (((h17.1 c20).2 c21).2 c22) (Nat.le_refl _) ?_)
          rintro _ M24 ⟨z23, rfl, s27, h25⟩
          refine ⟨_, rfl, ?_⟩
          refine r_if_eq dX10_text_47 rfl (fun c28 => ?_) (fun c28 => ?_)
          · refine r_iconst dX10_text_55 (by decide) ?_
            exact r_iret dX10_text_56 rfl (h25.1 c28)
          · refine r_aload_n dX10_text_50 rfl ?_
            refine r_invV_i dX10_text_51 kM10_127 (by decide) (Nat.le_of_ble_eq_true rfl) rfl rfl (Nat.le_of_ble_eq_true rfl) (Nat.le_of_ble_eq_true rfl) (sh_o s27 kk6 (by decide)) (Call.mono (h25.2 c28) (Nat.le_refl _) ?_)
            rintro _ M30 ⟨z29, rfl, s33, h31⟩
            refine ⟨_, rfl, ?_⟩
            exact r_iret dX10_text_54 rfl h31
    · refine r_aload_n dX10_text_18 rfl ?_
      refine r_invV_i dX10_text_19 kM10_120 (by decide) (Nat.le_of_ble_eq_true rfl) rfl rfl (Nat.le_of_ble_eq_true rfl) (Nat.le_of_ble_eq_true rfl) (sh_o s19 kk6 (by decide)) (Call.mono (h17.2 c20) (Nat.le_refl _) ?_)
      rintro _ M35 ⟨z34, rfl, s38, h36⟩
      refine ⟨_, rfl, ?_⟩
      exact r_iret dX10_text_22 rfl h36
