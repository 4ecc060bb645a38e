theorem vx_grainOf {e : Nat} {M : jM} {Q : Option jV → jM → Prop} {x : Int} (he : 4 ≤ e) (hS : Shp M)
  (h : (0 < x ∧ x < 4611686018427387904) ∧ (∀ v2 : Int, v2 = ((if (hft x) ≤ (23 : Int) then jshlL x (w32 ((23 : Int) - (hft x))) else jshrL x (w32 ((hft x) - (23 : Int))))) → (Q (some (vI (w32 (jandL v2 (8388607 : Int))))) M))) :
  Call (e + 1) mX10_grainOf [vL x] M Q := by
  show Run (e + 1) mX10_grainOf 0 [some (vL x), none, none, none, none] [] M Q
  refine r_lload_n dX10_grainOf_0 rfl ?_
  have ob1 := h.1
  refine r_invS_i dX10_grainOf_1 (by decide) kXn10_214 kM10_214 (by decide) (Nat.le_of_ble_eq_true rfl) rfl rfl (Nat.le_of_ble_eq_true rfl) (Nat.le_of_ble_eq_true rfl) (c_heftOf (by omega) ob1 ⟨_, rfl, ?_⟩)
  refine r_istore_n (ls2 := [some (vL x), none, some (vI (hft x)), none, none]) dX10_grainOf_4 (Nat.le_of_ble_eq_true rfl) rfl ?_
  refine r_iload_n dX10_grainOf_5 rfl ?_
  refine r_bipush dX10_grainOf_6 (by decide) ?_
  have K3 : Run (e + 1) mX10_grainOf 26 [some (vL x), none, some (vI (hft x)), none, none] [vL (if (hft x) ≤ (23 : Int) then jshlL x (w32 ((23 : Int) - (hft x))) else jshrL x (w32 ((hft x) - (23 : Int))))] M Q := by
    have K5 : ∀ v2 : Int, v2 = ((if (hft x) ≤ (23 : Int) then jshlL x (w32 ((23 : Int) - (hft x))) else jshrL x (w32 ((hft x) - (23 : Int))))) → Run (e + 1) mX10_grainOf 26 [some (vL x), none, some (vI (hft x)), none, none] [vL v2] M Q := by
      intro v2 hv4
      refine r_lstore_n (ls2 := [some (vL x), none, some (vI (hft x)), some (vL v2), none]) dX10_grainOf_26 (Nat.le_of_ble_eq_true rfl) rfl ?_
      refine r_lload_n dX10_grainOf_27 rfl ?_
      refine r_ldc2 dX10_grainOf_28 kL10_439 ?_
      refine r_land dX10_grainOf_31 ?_
      refine r_l2i dX10_grainOf_32 ?_
      exact r_iret dX10_grainOf_33 rfl (h.2 v2 hv4)
    exact K5 _ rfl
  refine r_icmp_le dX10_grainOf_8 rfl (fun q6 => ?_) (fun q6 => ?_)
  · rw [if_pos q6] at K3
    refine r_lload_n dX10_grainOf_20 rfl ?_
    refine r_bipush dX10_grainOf_21 (by decide) ?_
    refine r_iload_n dX10_grainOf_23 rfl ?_
    refine r_isub dX10_grainOf_24 ?_
    refine r_lshl dX10_grainOf_25 ?_
    exact K3
  · rw [if_neg q6] at K3
    refine r_lload_n dX10_grainOf_11 rfl ?_
    refine r_iload_n dX10_grainOf_12 rfl ?_
    refine r_bipush dX10_grainOf_13 (by decide) ?_
    refine r_isub dX10_grainOf_15 ?_
    refine r_lshr dX10_grainOf_16 ?_
    refine r_goto (tgt := 26) dX10_grainOf_17 rfl ?_
    exact K3
theorem vx_behind {e : Nat} {M : jM} {Q : Option jV → jM → Prop} {p : Int} {n : Int} (he : 4 ≤ e) (hS : Shp M)
  (h : (((if 0 ≤ p ∧ p < iv M 29 0 then (1 : Int) else (0 : Int)) = (0 : Int)) → (Q (some (vI (-1 : Int))) M)) ∧ (¬ ((if 0 ≤ p ∧ p < iv M 29 0 then (1 : Int) else (0 : Int)) = (0 : Int)) → (((n < (0 : Int)) → (Q (some (vI (-1 : Int))) M)) ∧ (¬ (n < (0 : Int)) → (((n ≤ (60 : Int)) → (Call e mX7_copyMinds [vR 49, vR 33] M (fun r7 M5 => r7 = none ∧ Shp M5 ∧ (Call e mX1_weigh [vR 29, vR 49] M5 (fun r12 M10 => r12 = none ∧ Shp M10 ∧ (Run (e + 1) mX10_behind 47 [some (vR 6), some (vI p), some (vI n), some (vI (0 : Int))] [] M10 Q)))))) ∧ (¬ (n ≤ (60 : Int)) → (Q (some (vI (-1 : Int))) M))))))) :
  Call (e + 1) mX10_behind [vR 6, vI p, vI n] M Q := by
  show Run (e + 1) mX10_behind 0 [some (vR 6), some (vI p), some (vI n), none] [] M Q
  refine r_aload_n dX10_behind_0 rfl ?_
  refine r_getS (v := 29) dX10_behind_1 kF10_50 (sh_o hS kk6 (by decide)) (sh_f hS rr6_9 (by decide)) ?_
  refine r_iload_n dX10_behind_4 rfl ?_
  refine r_invV_i dX10_behind_5 kM10_179 (by decide) (Nat.le_of_ble_eq_true rfl) rfl rfl (Nat.le_of_ble_eq_true rfl) (Nat.le_of_ble_eq_true rfl) (sh_o hS kk29 (by decide)) (i_has (by omega) hS ⟨_, rfl, ?_⟩)
  refine r_if_eq dX10_behind_8 rfl (fun c1 => ?_) (fun c1 => ?_)
  · refine r_iconst dX10_behind_21 (by decide) ?_
    exact r_iret dX10_behind_22 rfl (h.1 c1)
  · refine r_iload_n dX10_behind_11 rfl ?_
    refine r_if_lt dX10_behind_12 rfl (fun c2 => ?_) (fun c2 => ?_)
    · refine r_iconst dX10_behind_21 (by decide) ?_
      exact r_iret dX10_behind_22 rfl ((h.2 c1).1 c2)
    · refine r_iload_n dX10_behind_15 rfl ?_
      refine r_bipush dX10_behind_16 (by decide) ?_
      refine r_icmp_le dX10_behind_18 rfl (fun c3 => ?_) (fun c3 => ?_)
      · refine r_aload_n dX10_behind_23 rfl ?_
        refine r_getS (v := 49) dX10_behind_24 kF10_64 (sh_o hS kk6 (by decide)) (sh_f hS rr6_12 (by decide)) ?_
        refine r_aload_n dX10_behind_27 rfl ?_
        refine r_getS (v := 33) dX10_behind_28 kF10_57 (sh_o hS kk6 (by decide)) (sh_f hS rr6_10 (by decide)) ?_
        refine r_invV_v dX10_behind_31 kM10_314 (by decide) (Nat.le_of_ble_eq_true rfl) rfl rfl (Nat.le_of_ble_eq_true rfl) (Nat.le_of_ble_eq_true rfl) (sh_o hS kk49 (by decide)) (Call.mono (((h.2 c1).2 c2).1 c3) (Nat.le_refl _) ?_)
        rintro _ M5 ⟨rfl, s8, h6⟩
        refine ⟨rfl, ?_⟩
        refine r_aload_n dX10_behind_34 rfl ?_
        refine r_getS (v := 29) dX10_behind_35 kF10_50 (sh_o s8 kk6 (by decide)) (sh_f s8 rr6_9 (by decide)) ?_
        refine r_aload_n dX10_behind_38 rfl ?_
        refine r_getS (v := 49) dX10_behind_39 kF10_64 (sh_o s8 kk6 (by decide)) (sh_f s8 rr6_12 (by decide)) ?_
        refine r_invV_v dX10_behind_42 kM10_203 (by decide) (Nat.le_of_ble_eq_true rfl) rfl rfl (Nat.le_of_ble_eq_true rfl) (Nat.le_of_ble_eq_true rfl) (sh_o s8 kk29 (by decide)) (Call.mono h6 (Nat.le_refl _) ?_)
        rintro _ M10 ⟨rfl, s13, h11⟩
        refine ⟨rfl, ?_⟩
        refine r_iconst dX10_behind_45 (by decide) ?_
        refine r_istore_n (ls2 := [some (vR 6), some (vI p), some (vI n), some (vI (0 : Int))]) dX10_behind_46 (Nat.le_of_ble_eq_true rfl) rfl ?_
        exact h11
      · refine r_iconst dX10_behind_21 (by decide) ?_
        exact r_iret dX10_behind_22 rfl (((h.2 c1).2 c2).2 c3)
theorem vx_behind_47 {e : Nat} {M : jM} {Q : Option jV → jM → Prop} {p : Int} {n : Int} {l3 : Int}  (he : 4 ≤ e) (hS : Shp M)
  (h : ((n ≤ l3) → (Call e mX7_weight [vR 49, vI p] M (fun r18 M16 => ∃ z15 : Int, r18 = some (vL z15) ∧ Shp M16 ∧ (Q (some (vI (fT z15))) M16)))) ∧ (¬ (n ≤ l3) → (Call e mX7_passHour [vR 49] M (fun r23 M21 => r23 = none ∧ Shp M21 ∧ (Call e mX1_weigh [vR 29, vR 49] M21 (fun r28 M26 => r28 = none ∧ Shp M26 ∧ (Run (e + 1) mX10_behind 47 [some (vR 6), some (vI p), some (vI n), some (vI (w32 (l3 + (1 : Int))))] [] M26 Q))))))) :
  Run (e + 1) mX10_behind 47 [some (vR 6), some (vI p), some (vI n), some (vI l3)] [] M Q := by
  refine r_iload_n dX10_behind_47 rfl ?_
  refine r_iload_n dX10_behind_48 rfl ?_
  refine r_icmp_ge dX10_behind_49 rfl (fun c14 => ?_) (fun c14 => ?_)
  · refine r_aload_n dX10_behind_76 rfl ?_
    refine r_getS (v := 49) dX10_behind_77 kF10_64 (sh_o hS kk6 (by decide)) (sh_f hS rr6_12 (by decide)) ?_
    refine r_iload_n dX10_behind_80 rfl ?_
    refine r_invV_l dX10_behind_81 kM10_206 (by decide) (Nat.le_of_ble_eq_true rfl) rfl rfl (Nat.le_of_ble_eq_true rfl) (Nat.le_of_ble_eq_true rfl) (sh_o hS kk49 (by decide)) (Call.mono (h.1 c14) (Nat.le_refl _) ?_)
    rintro _ M16 ⟨z15, rfl, s19, h17⟩
    refine ⟨_, rfl, ?_⟩
    refine r_invS_i dX10_behind_84 (by decide) kXn10_210 kM10_210 (by decide) (Nat.le_of_ble_eq_true rfl) rfl rfl (Nat.le_of_ble_eq_true rfl) (Nat.le_of_ble_eq_true rfl) (c_asTold (by omega) s19 ⟨_, rfl, ?_⟩)
    exact r_iret dX10_behind_87 rfl h17
  · refine r_aload_n dX10_behind_52 rfl ?_
    refine r_getS (v := 49) dX10_behind_53 kF10_64 (sh_o hS kk6 (by decide)) (sh_f hS rr6_12 (by decide)) ?_
    refine r_invV_v dX10_behind_56 kM10_293 (by decide) (Nat.le_of_ble_eq_true rfl) rfl rfl (Nat.le_of_ble_eq_true rfl) (Nat.le_of_ble_eq_true rfl) (sh_o hS kk49 (by decide)) (Call.mono (h.2 c14) (Nat.le_refl _) ?_)
    rintro _ M21 ⟨rfl, s24, h22⟩
    refine ⟨rfl, ?_⟩
    refine r_aload_n dX10_behind_59 rfl ?_
    refine r_getS (v := 29) dX10_behind_60 kF10_50 (sh_o s24 kk6 (by decide)) (sh_f s24 rr6_9 (by decide)) ?_
    refine r_aload_n dX10_behind_63 rfl ?_
    refine r_getS (v := 49) dX10_behind_64 kF10_64 (sh_o s24 kk6 (by decide)) (sh_f s24 rr6_12 (by decide)) ?_
    refine r_invV_v dX10_behind_67 kM10_203 (by decide) (Nat.le_of_ble_eq_true rfl) rfl rfl (Nat.le_of_ble_eq_true rfl) (Nat.le_of_ble_eq_true rfl) (sh_o s24 kk29 (by decide)) (Call.mono h22 (Nat.le_refl _) ?_)
    rintro _ M26 ⟨rfl, s29, h27⟩
    refine ⟨rfl, ?_⟩
    refine r_iinc (ls2 := [some (vR 6), some (vI p), some (vI n), some (vI (w32 (l3 + (1 : Int))))]) dX10_behind_70 rfl rfl ?_
    refine r_goto (tgt := 47) dX10_behind_73 rfl ?_
    exact h27
theorem vx_floatsIn {e : Nat} {M : jM} {Q : Option jV → jM → Prop} {p : Int} (he : 4 ≤ e) (hS : Shp M)
  (h : (((if 0 ≤ p ∧ p < iv M 29 0 then (1 : Int) else (0 : Int)) ≠ (0 : Int)) → (Call e mX7_copyMinds [vR 49, vR 33] M (fun r5 M3 => r5 = none ∧ Shp M3 ∧ (Run (e + 1) mX10_floatsIn 26 [some (vR 6), some (vI p), some (vI (0 : Int))] [] M3 Q)))) ∧ (¬ ((if 0 ≤ p ∧ p < iv M 29 0 then (1 : Int) else (0 : Int)) ≠ (0 : Int)) → (Q (some (vI (-1 : Int))) M))) :
  Call (e + 1) mX10_floatsIn [vR 6, vI p] M Q := by
  show Run (e + 1) mX10_floatsIn 0 [some (vR 6), some (vI p), none] [] M Q
  refine r_aload_n dX10_floatsIn_0 rfl ?_
  refine r_getS (v := 29) dX10_floatsIn_1 kF10_50 (sh_o hS kk6 (by decide)) (sh_f hS rr6_9 (by decide)) ?_
  refine r_iload_n dX10_floatsIn_4 rfl ?_
  refine r_invV_i dX10_floatsIn_5 kM10_179 (by decide) (Nat.le_of_ble_eq_true rfl) rfl rfl (Nat.le_of_ble_eq_true rfl) (Nat.le_of_ble_eq_true rfl) (sh_o hS kk29 (by decide)) (i_has (by omega) hS ⟨_, rfl, ?_⟩)
  refine r_if_ne dX10_floatsIn_8 rfl (fun c1 => ?_) (fun c1 => ?_)
  · refine r_aload_n dX10_floatsIn_13 rfl ?_
    refine r_getS (v := 49) dX10_floatsIn_14 kF10_64 (sh_o hS kk6 (by decide)) (sh_f hS rr6_12 (by decide)) ?_
    refine r_aload_n dX10_floatsIn_17 rfl ?_
    refine r_getS (v := 33) dX10_floatsIn_18 kF10_57 (sh_o hS kk6 (by decide)) (sh_f hS rr6_10 (by decide)) ?_
    refine r_invV_v dX10_floatsIn_21 kM10_314 (by decide) (Nat.le_of_ble_eq_true rfl) rfl rfl (Nat.le_of_ble_eq_true rfl) (Nat.le_of_ble_eq_true rfl) (sh_o hS kk49 (by decide)) (Call.mono (h.1 c1) (Nat.le_refl _) ?_)
    rintro _ M3 ⟨rfl, s6, h4⟩
    refine ⟨rfl, ?_⟩
    refine r_iconst dX10_floatsIn_24 (by decide) ?_
    refine r_istore_n (ls2 := [some (vR 6), some (vI p), some (vI (0 : Int))]) dX10_floatsIn_25 (Nat.le_of_ble_eq_true rfl) rfl ?_
    exact h4
  · refine r_iconst dX10_floatsIn_11 (by decide) ?_
    exact r_iret dX10_floatsIn_12 rfl (h.2 c1)
theorem vx_floatsIn_26 {e : Nat} {M : jM} {Q : Option jV → jM → Prop} {p : Int} {l2 : Int}  (he : 4 ≤ e) (hS : Shp M)
  (h : (((99 : Int) < l2) → (Q (some (vI (-1 : Int))) M)) ∧ (¬ ((99 : Int) < l2) → (Call e mX1_weigh [vR 29, vR 49] M (fun r11 M9 => r11 = none ∧ Shp M9 ∧ (Call e mX7_floats [vR 49, vI p] M9 (fun r16 M14 => ∃ z13 : Int, r16 = some (vI z13) ∧ Shp M14 ∧ (((z13 = (0 : Int)) → (Call e mX7_passHour [vR 49] M14 (fun r22 M20 => r22 = none ∧ Shp M20 ∧ (Run (e + 1) mX10_floatsIn 26 [some (vR 6), some (vI p), some (vI (w32 (l2 + (1 : Int))))] [] M20 Q)))) ∧ (¬ (z13 = (0 : Int)) → (Q (some (vI l2)) M14))))))))) :
  Run (e + 1) mX10_floatsIn 26 [some (vR 6), some (vI p), some (vI l2)] [] M Q := by
  refine r_iload_n dX10_floatsIn_26 rfl ?_
  refine r_bipush dX10_floatsIn_27 (by decide) ?_
  refine r_icmp_gt dX10_floatsIn_29 rfl (fun c7 => ?_) (fun c7 => ?_)
  · refine r_iconst dX10_floatsIn_69 (by decide) ?_
    exact r_iret dX10_floatsIn_70 rfl (h.1 c7)
  · refine r_aload_n dX10_floatsIn_32 rfl ?_
    refine r_getS (v := 29) dX10_floatsIn_33 kF10_50 (sh_o hS kk6 (by decide)) (sh_f hS rr6_9 (by decide)) ?_
    refine r_aload_n dX10_floatsIn_36 rfl ?_
    refine r_getS (v := 49) dX10_floatsIn_37 kF10_64 (sh_o hS kk6 (by decide)) (sh_f hS rr6_12 (by decide)) ?_
    refine r_invV_v dX10_floatsIn_40 kM10_203 (by decide) (Nat.le_of_ble_eq_true rfl) rfl rfl (Nat.le_of_ble_eq_true rfl) (Nat.le_of_ble_eq_true rfl) (sh_o hS kk29 (by decide)) (Call.mono (h.2 c7) (Nat.le_refl _) ?_)
    rintro _ M9 ⟨rfl, s12, h10⟩
    refine ⟨rfl, ?_⟩
    refine r_aload_n dX10_floatsIn_43 rfl ?_
    refine r_getS (v := 49) dX10_floatsIn_44 kF10_64 (sh_o s12 kk6 (by decide)) (sh_f s12 rr6_12 (by decide)) ?_
    refine r_iload_n dX10_floatsIn_47 rfl ?_
    refine r_invV_i dX10_floatsIn_48 kM10_317 (by decide) (Nat.le_of_ble_eq_true rfl) rfl rfl (Nat.le_of_ble_eq_true rfl) (Nat.le_of_ble_eq_true rfl) (sh_o s12 kk49 (by decide)) (Call.mono h10 (Nat.le_refl _) ?_)
    rintro _ M14 ⟨z13, rfl, s17, h15⟩
    refine ⟨_, rfl, ?_⟩
    refine r_if_eq dX10_floatsIn_51 rfl (fun c18 => ?_) (fun c18 => ?_)
    · refine r_aload_n dX10_floatsIn_56 rfl ?_
      refine r_getS (v := 49) dX10_floatsIn_57 kF10_64 (sh_o s17 kk6 (by decide)) (sh_f s17 rr6_12 (by decide)) ?_
      refine r_invV_v dX10_floatsIn_60 kM10_293 (by decide) (Nat.le_of_ble_eq_true rfl) rfl rfl (Nat.le_of_ble_eq_true rfl) (Nat.le_of_ble_eq_true rfl) (sh_o s17 kk49 (by decide)) (Call.mono (h15.1 c18) (Nat.le_refl _) ?_)
      rintro _ M20 ⟨rfl, s23, h21⟩
      refine ⟨rfl, ?_⟩
      refine r_iinc (ls2 := [some (vR 6), some (vI p), some (vI (w32 (l2 + (1 : Int))))]) dX10_floatsIn_63 rfl rfl ?_
      refine r_goto (tgt := 26) dX10_floatsIn_66 rfl ?_
      exact h21
    · refine r_iload_n dX10_floatsIn_54 rfl ?_
      exact r_iret dX10_floatsIn_55 rfl (h15.2 c18)
theorem vx_load {e : Nat} {M : jM} {Q : Option jV → jM → Prop} {sm : Int} (he : 4 ≤ e) (hS : Shp M)
  (h : (((if 0 < iv M 29 0 then (1 : Int) else (0 : Int)) = (0 : Int)) → (Q (some (vI (-1 : Int))) M)) ∧ (¬ ((if 0 < iv M 29 0 then (1 : Int) else (0 : Int)) = (0 : Int)) → (((sm < (0 : Int)) → (Q (some (vI (-1 : Int))) M)) ∧ (¬ (sm < (0 : Int)) → (((sm < (jshl (1 : Int) (iv M 29 0))) → (Call e mX10_allStandAtTheBridge [vR 6] M (fun r7 M5 => r7 = none ∧ Shp M5 ∧ (Call e mX0_loadOf [vR 405, vI sm] M5 (fun r12 M10 => ∃ z9 : Int, r12 = some (vL z9) ∧ Shp M10 ∧ (Q (some (vI (fT z9))) M10)))))) ∧ (¬ (sm < (jshl (1 : Int) (iv M 29 0))) → (Q (some (vI (-1 : Int))) M))))))) :
  Call (e + 1) mX10_load [vR 6, vI sm] M Q := by
  show Run (e + 1) mX10_load 0 [some (vR 6), some (vI sm)] [] M Q
  refine r_aload_n dX10_load_0 rfl ?_
  refine r_invV_i dX10_load_1 kM10_164 (by decide) (Nat.le_of_ble_eq_true rfl) rfl rfl (Nat.le_of_ble_eq_true rfl) (Nat.le_of_ble_eq_true rfl) (sh_o hS kk6 (by decide)) (c_hasIsland (by omega) hS ⟨_, rfl, ?_⟩)
  refine r_if_eq dX10_load_4 rfl (fun c1 => ?_) (fun c1 => ?_)
  · refine r_iconst dX10_load_24 (by decide) ?_
    exact r_iret dX10_load_25 rfl (h.1 c1)
  · refine r_iload_n dX10_load_7 rfl ?_
    refine r_if_lt dX10_load_8 rfl (fun c2 => ?_) (fun c2 => ?_)
    · refine r_iconst dX10_load_24 (by decide) ?_
      exact r_iret dX10_load_25 rfl ((h.2 c1).1 c2)
    · refine r_iload_n dX10_load_11 rfl ?_
      refine r_iconst dX10_load_12 (by decide) ?_
      refine r_aload_n dX10_load_13 rfl ?_
      refine r_getS (v := 29) dX10_load_14 kF10_50 (sh_o hS kk6 (by decide)) (sh_f hS rr6_9 (by decide)) ?_
      refine r_get0 dX10_load_17 kF10_146 (sh_o hS kk29 (by decide)) ?_
      refine r_ishl dX10_load_20 ?_
      refine r_icmp_lt dX10_load_21 rfl (fun c3 => ?_) (fun c3 => ?_)
      · refine r_aload_n dX10_load_26 rfl ?_
        refine r_invV_v dX10_load_27 kM10_320 (by decide) (Nat.le_of_ble_eq_true rfl) rfl rfl (Nat.le_of_ble_eq_true rfl) (Nat.le_of_ble_eq_true rfl) (sh_o hS kk6 (by decide)) (Call.mono (((h.2 c1).2 c2).1 c3) (Nat.le_refl _) ?_)
        rintro _ M5 ⟨rfl, s8, h6⟩
        refine ⟨rfl, ?_⟩
        refine r_aload_n dX10_load_30 rfl ?_
        refine r_getS (v := 405) dX10_load_31 kF10_87 (sh_o s8 kk6 (by decide)) (sh_f s8 rr6_17 (by decide)) ?_
        refine r_iload_n dX10_load_34 rfl ?_
        refine r_invV_l dX10_load_35 kM10_323 (by decide) (Nat.le_of_ble_eq_true rfl) rfl rfl (Nat.le_of_ble_eq_true rfl) (Nat.le_of_ble_eq_true rfl) (sh_o s8 kk405 (by decide)) (Call.mono h6 (Nat.le_refl _) ?_)
        rintro _ M10 ⟨z9, rfl, s13, h11⟩
        refine ⟨_, rfl, ?_⟩
        refine r_invS_i dX10_load_38 (by decide) kXn10_210 kM10_210 (by decide) (Nat.le_of_ble_eq_true rfl) rfl rfl (Nat.le_of_ble_eq_true rfl) (Nat.le_of_ble_eq_true rfl) (c_asTold (by omega) s13 ⟨_, rfl, ?_⟩)
        exact r_iret dX10_load_41 rfl h11
      · refine r_iconst dX10_load_24 (by decide) ?_
        exact r_iret dX10_load_25 rfl (((h.2 c1).2 c2).2 c3)
theorem vx_together {e : Nat} {M : jM} {Q : Option jV → jM → Prop}  (he : 4 ≤ e) (hS : Shp M)
  (h : (((if 0 < iv M 29 0 then (1 : Int) else (0 : Int)) ≠ (0 : Int)) → (Call e mX10_allStandAtTheBridge [vR 6] M (fun r5 M3 => r5 = none ∧ Shp M3 ∧ (Call e mX0_mostAtOnce [vR 405, vI (iv M3 29 2)] M3 (fun r10 M8 => ∃ z7 : Int, r10 = some (vI z7) ∧ Shp M8 ∧ (Q (some (vI z7)) M8)))))) ∧ (¬ ((if 0 < iv M 29 0 then (1 : Int) else (0 : Int)) ≠ (0 : Int)) → (Q (some (vI (-1 : Int))) M))) :
  Call (e + 1) mX10_together [vR 6] M Q := by
  show Run (e + 1) mX10_together 0 [some (vR 6)] [] M Q
  refine r_aload_n dX10_together_0 rfl ?_
  refine r_invV_i dX10_together_1 kM10_164 (by decide) (Nat.le_of_ble_eq_true rfl) rfl rfl (Nat.le_of_ble_eq_true rfl) (Nat.le_of_ble_eq_true rfl) (sh_o hS kk6 (by decide)) (c_hasIsland (by omega) hS ⟨_, rfl, ?_⟩)
  refine r_if_ne dX10_together_4 rfl (fun c1 => ?_) (fun c1 => ?_)
  · refine r_aload_n dX10_together_9 rfl ?_
    refine r_invV_v dX10_together_10 kM10_320 (by decide) (Nat.le_of_ble_eq_true rfl) rfl rfl (Nat.le_of_ble_eq_true rfl) (Nat.le_of_ble_eq_true rfl) (sh_o hS kk6 (by decide)) (Call.mono (h.1 c1) (Nat.le_refl _) ?_)
    rintro _ M3 ⟨rfl, s6, h4⟩
    refine ⟨rfl, ?_⟩
    refine r_aload_n dX10_together_13 rfl ?_
    refine r_getS (v := 405) dX10_together_14 kF10_87 (sh_o s6 kk6 (by decide)) (sh_f s6 rr6_17 (by decide)) ?_
    refine r_aload_n dX10_together_17 rfl ?_
    refine r_getS (v := 29) dX10_together_18 kF10_50 (sh_o s6 kk6 (by decide)) (sh_f s6 rr6_9 (by decide)) ?_
    refine r_get0 dX10_together_21 kF10_174 (sh_o s6 kk29 (by decide)) ?_
    refine r_invV_i dX10_together_24 kM10_326 (by decide) (Nat.le_of_ble_eq_true rfl) rfl rfl (Nat.le_of_ble_eq_true rfl) (Nat.le_of_ble_eq_true rfl) (sh_o s6 kk405 (by decide)) (Call.mono h4 (Nat.le_refl _) ?_)
    rintro _ M8 ⟨z7, rfl, s11, h9⟩
    refine ⟨_, rfl, ?_⟩
    exact r_iret dX10_together_27 rfl h9
  · refine r_iconst dX10_together_7 (by decide) ?_
    exact r_iret dX10_together_8 rfl (h.2 c1)
theorem vx_goings {e : Nat} {M : jM} {Q : Option jV → jM → Prop}  (he : 4 ≤ e) (hS : Shp M)
  (h : (((if 0 < iv M 29 0 then (1 : Int) else (0 : Int)) ≠ (0 : Int)) → (Call e mX10_allStandAtTheBridge [vR 6] M (fun r5 M3 => r5 = none ∧ Shp M3 ∧ (Call e mX0_fewestGoings [vR 405, vI (iv M3 29 2)] M3 (fun r10 M8 => ∃ z7 : Int, r10 = some (vI z7) ∧ Shp M8 ∧ (Q (some (vI z7)) M8)))))) ∧ (¬ ((if 0 < iv M 29 0 then (1 : Int) else (0 : Int)) ≠ (0 : Int)) → (Q (some (vI (-1 : Int))) M))) :
  Call (e + 1) mX10_goings [vR 6] M Q := by
  show Run (e + 1) mX10_goings 0 [some (vR 6)] [] M Q
  refine r_aload_n dX10_goings_0 rfl ?_
  refine r_invV_i dX10_goings_1 kM10_164 (by decide) (Nat.le_of_ble_eq_true rfl) rfl rfl (Nat.le_of_ble_eq_true rfl) (Nat.le_of_ble_eq_true rfl) (sh_o hS kk6 (by decide)) (c_hasIsland (by omega) hS ⟨_, rfl, ?_⟩)
  refine r_if_ne dX10_goings_4 rfl (fun c1 => ?_) (fun c1 => ?_)
  · refine r_aload_n dX10_goings_9 rfl ?_
    refine r_invV_v dX10_goings_10 kM10_320 (by decide) (Nat.le_of_ble_eq_true rfl) rfl rfl (Nat.le_of_ble_eq_true rfl) (Nat.le_of_ble_eq_true rfl) (sh_o hS kk6 (by decide)) (Call.mono (h.1 c1) (Nat.le_refl _) ?_)
    rintro _ M3 ⟨rfl, s6, h4⟩
    refine ⟨rfl, ?_⟩
    refine r_aload_n dX10_goings_13 rfl ?_
    refine r_getS (v := 405) dX10_goings_14 kF10_87 (sh_o s6 kk6 (by decide)) (sh_f s6 rr6_17 (by decide)) ?_
    refine r_aload_n dX10_goings_17 rfl ?_
    refine r_getS (v := 29) dX10_goings_18 kF10_50 (sh_o s6 kk6 (by decide)) (sh_f s6 rr6_9 (by decide)) ?_
    refine r_get0 dX10_goings_21 kF10_174 (sh_o s6 kk29 (by decide)) ?_
    refine r_invV_i dX10_goings_24 kM10_329 (by decide) (Nat.le_of_ble_eq_true rfl) rfl rfl (Nat.le_of_ble_eq_true rfl) (Nat.le_of_ble_eq_true rfl) (sh_o s6 kk405 (by decide)) (Call.mono h4 (Nat.le_refl _) ?_)
    rintro _ M8 ⟨z7, rfl, s11, h9⟩
    refine ⟨_, rfl, ?_⟩
    exact r_iret dX10_goings_27 rfl h9
  · refine r_iconst dX10_goings_7 (by decide) ?_
    exact r_iret dX10_goings_8 rfl (h.2 c1)
theorem vx_allStandAtTheBridge {e : Nat} {M : jM} {Q : Option jV → jM → Prop}  (he : 4 ≤ e) (hS : Shp M)
  (h : Call e mX1_weigh [vR 29, vR 33] M (fun r4 M2 => r4 = none ∧ Shp M2 ∧ (Call e mX0_stand [vR 405, vR 33, vI (iv M2 29 0)] M2 (fun r9 M7 => r9 = none ∧ Shp M7 ∧ (Q none M7))))) :
  Call (e + 1) mX10_allStandAtTheBridge [vR 6] M Q := by
  show Run (e + 1) mX10_allStandAtTheBridge 0 [some (vR 6)] [] M Q
  refine r_aload_n dX10_allStandAtTheBridge_0 rfl ?_
  refine r_getS (v := 29) dX10_allStandAtTheBridge_1 kF10_50 (sh_o hS kk6 (by decide)) (sh_f hS rr6_9 (by decide)) ?_
  refine r_aload_n dX10_allStandAtTheBridge_4 rfl ?_
  refine r_getS (v := 33) dX10_allStandAtTheBridge_5 kF10_57 (sh_o hS kk6 (by decide)) (sh_f hS rr6_10 (by decide)) ?_
  refine r_invV_v dX10_allStandAtTheBridge_8 kM10_203 (by decide) (Nat.le_of_ble_eq_true rfl) rfl rfl (Nat.le_of_ble_eq_true rfl) (Nat.le_of_ble_eq_true rfl) (sh_o hS kk29 (by decide)) (Call.mono h (Nat.le_refl _) ?_)
  rintro _ M2 ⟨rfl, s5, h3⟩
  refine ⟨rfl, ?_⟩
  refine r_aload_n dX10_allStandAtTheBridge_11 rfl ?_
  refine r_getS (v := 405) dX10_allStandAtTheBridge_12 kF10_87 (sh_o s5 kk6 (by decide)) (sh_f s5 rr6_17 (by decide)) ?_
  refine r_aload_n dX10_allStandAtTheBridge_15 rfl ?_
  refine r_getS (v := 33) dX10_allStandAtTheBridge_16 kF10_57 (sh_o s5 kk6 (by decide)) (sh_f s5 rr6_10 (by decide)) ?_
  refine r_aload_n dX10_allStandAtTheBridge_19 rfl ?_
  refine r_getS (v := 29) dX10_allStandAtTheBridge_20 kF10_50 (sh_o s5 kk6 (by decide)) (sh_f s5 rr6_9 (by decide)) ?_
  refine r_get0 dX10_allStandAtTheBridge_23 kF10_146 (sh_o s5 kk29 (by decide)) ?_
  refine r_invV_v dX10_allStandAtTheBridge_26 kM10_332 (by decide) (Nat.le_of_ble_eq_true rfl) rfl rfl (Nat.le_of_ble_eq_true rfl) (Nat.le_of_ble_eq_true rfl) (sh_o s5 kk405 (by decide)) (Call.mono h3 (Nat.le_refl _) ?_)
  rintro _ M7 ⟨rfl, s10, h8⟩
  refine ⟨rfl, ?_⟩
  exact r_vret dX10_allStandAtTheBridge_29 rfl h8
theorem vx_held {e : Nat} {M : jM} {Q : Option jV → jM → Prop} {p : Int} (he : 4 ≤ e) (hS : Shp M)
  (h : (((if 0 ≤ p ∧ p < iv M 29 0 then (1 : Int) else (0 : Int)) ≠ (0 : Int)) → (Call e mX1_weigh [vR 29, vR 33] M (fun r5 M3 => r5 = none ∧ Shp M3 ∧ (Call e mX7_floats [vR 33, vI p] M3 (fun r10 M8 => ∃ z7 : Int, r10 = some (vI z7) ∧ Shp M8 ∧ (((z7 ≠ (0 : Int)) → (Call e mX1_ableToThinkPolitely [vR 29, vR 33, vI p] M8 (fun r16 M14 => ∃ z13 : Int, r16 = some (vI z13) ∧ Shp M14 ∧ (Call e mX7_copyMinds [vR 49, vR 33] M14 (fun r21 M19 => r21 = none ∧ Shp M19 ∧ (Run (e + 1) mX10_held 63 [some (vR 6), some (vI p), some (vI z13), some (vI (0 : Int)), none, none] [] M19 Q)))))) ∧ (¬ (z7 ≠ (0 : Int)) → (Q (some (vI (0 : Int))) M8)))))))) ∧ (¬ ((if 0 ≤ p ∧ p < iv M 29 0 then (1 : Int) else (0 : Int)) ≠ (0 : Int)) → (Q (some (vI (-1 : Int))) M))) :
  Call (e + 1) mX10_held [vR 6, vI p] M Q := by
  show Run (e + 1) mX10_held 0 [some (vR 6), some (vI p), none, none, none, none] [] M Q
  refine r_aload_n dX10_held_0 rfl ?_
  refine r_getS (v := 29) dX10_held_1 kF10_50 (sh_o hS kk6 (by decide)) (sh_f hS rr6_9 (by decide)) ?_
  refine r_iload_n dX10_held_4 rfl ?_
  refine r_invV_i dX10_held_5 kM10_179 (by decide) (Nat.le_of_ble_eq_true rfl) rfl rfl (Nat.le_of_ble_eq_true rfl) (Nat.le_of_ble_eq_true rfl) (sh_o hS kk29 (by decide)) (i_has (by omega) hS ⟨_, rfl, ?_⟩)
  refine r_if_ne dX10_held_8 rfl (fun c1 => ?_) (fun c1 => ?_)
  · refine r_aload_n dX10_held_13 rfl ?_
    refine r_getS (v := 29) dX10_held_14 kF10_50 (sh_o hS kk6 (by decide)) (sh_f hS rr6_9 (by decide)) ?_
    refine r_aload_n dX10_held_17 rfl ?_
    refine r_getS (v := 33) dX10_held_18 kF10_57 (sh_o hS kk6 (by decide)) (sh_f hS rr6_10 (by decide)) ?_
    refine r_invV_v dX10_held_21 kM10_203 (by decide) (Nat.le_of_ble_eq_true rfl) rfl rfl (Nat.le_of_ble_eq_true rfl) (Nat.le_of_ble_eq_true rfl) (sh_o hS kk29 (by decide)) (Call.mono (h.1 c1) (Nat.le_refl _) ?_)
    rintro _ M3 ⟨rfl, s6, h4⟩
    refine ⟨rfl, ?_⟩
    refine r_aload_n dX10_held_24 rfl ?_
    refine r_getS (v := 33) dX10_held_25 kF10_57 (sh_o s6 kk6 (by decide)) (sh_f s6 rr6_10 (by decide)) ?_
    refine r_iload_n dX10_held_28 rfl ?_
    refine r_invV_i dX10_held_29 kM10_317 (by decide) (Nat.le_of_ble_eq_true rfl) rfl rfl (Nat.le_of_ble_eq_true rfl) (Nat.le_of_ble_eq_true rfl) (sh_o s6 kk33 (by decide)) (Call.mono h4 (Nat.le_refl _) ?_)
    rintro _ M8 ⟨z7, rfl, s11, h9⟩
    refine ⟨_, rfl, ?_⟩
    refine r_if_ne dX10_held_32 rfl (fun c12 => ?_) (fun c12 => ?_)
    · refine r_aload_n dX10_held_37 rfl ?_
      refine r_getS (v := 29) dX10_held_38 kF10_50 (sh_o s11 kk6 (by decide)) (sh_f s11 rr6_9 (by decide)) ?_
      refine r_aload_n dX10_held_41 rfl ?_
      refine r_getS (v := 33) dX10_held_42 kF10_57 (sh_o s11 kk6 (by decide)) (sh_f s11 rr6_10 (by decide)) ?_
      refine r_iload_n dX10_held_45 rfl ?_
      refine r_invV_i dX10_held_46 kM10_336 (by decide) (Nat.le_of_ble_eq_true rfl) rfl rfl (Nat.le_of_ble_eq_true rfl) (Nat.le_of_ble_eq_true rfl) (sh_o s11 kk29 (by decide)) (Call.mono (h9.1 c12) (Nat.le_refl _) ?_)
      rintro _ M14 ⟨z13, rfl, s17, h15⟩
      refine ⟨_, rfl, ?_⟩
      refine r_istore_n (ls2 := [some (vR 6), some (vI p), some (vI z13), none, none, none]) dX10_held_49 (Nat.le_of_ble_eq_true rfl) rfl ?_
      refine r_aload_n dX10_held_50 rfl ?_
      refine r_getS (v := 49) dX10_held_51 kF10_64 (sh_o s17 kk6 (by decide)) (sh_f s17 rr6_12 (by decide)) ?_
      refine r_aload_n dX10_held_54 rfl ?_
      refine r_getS (v := 33) dX10_held_55 kF10_57 (sh_o s17 kk6 (by decide)) (sh_f s17 rr6_10 (by decide)) ?_
      refine r_invV_v dX10_held_58 kM10_314 (by decide) (Nat.le_of_ble_eq_true rfl) rfl rfl (Nat.le_of_ble_eq_true rfl) (Nat.le_of_ble_eq_true rfl) (sh_o s17 kk49 (by decide)) (Call.mono h15 (Nat.le_refl _) ?_)
      rintro _ M19 ⟨rfl, s22, h20⟩
      refine ⟨rfl, ?_⟩
      refine r_iconst dX10_held_61 (by decide) ?_
      refine r_istore_n (ls2 := [some (vR 6), some (vI p), some (vI z13), some (vI (0 : Int)), none, none]) dX10_held_62 (Nat.le_of_ble_eq_true rfl) rfl ?_
      exact h20
    · refine r_iconst dX10_held_35 (by decide) ?_
      exact r_iret dX10_held_36 rfl (h9.2 c12)
  · refine r_iconst dX10_held_11 (by decide) ?_
    exact r_iret dX10_held_12 rfl (h.2 c1)
theorem vx_held_63 {e : Nat} {M : jM} {Q : Option jV → jM → Prop} {p : Int} {l2 : Int} {l3 : Int} {l4 : Option jV} {l5 : Option jV}  (he : 4 ≤ e) (hS : Shp M)
  (h : (((8 : Int) ≤ l3) → (Call e mX1_weigh [vR 29, vR 49] M (fun r27 M25 => r27 = none ∧ Shp M25 ∧ (Run (e + 1) mX10_held 119 [some (vR 6), some (vI p), some (vI l2), some (vI (-1 : Int)), some (vI (1 : Int)), l5] [] M25 Q)))) ∧ (¬ ((8 : Int) ≤ l3) → ((((jand (jshr l2 l3) (1 : Int)) ≠ (1 : Int)) → (Run (e + 1) mX10_held 63 [some (vR 6), some (vI p), some (vI l2), some (vI (w32 (l3 + (1 : Int)))), l4, l5] [] M Q)) ∧ (¬ ((jand (jshr l2 l3) (1 : Int)) ≠ (1 : Int)) → (Call e mX7_emptyPlace [vR 33, vI l3] M (fun r33 M31 => ∃ z30 : Int, r33 = some (vI z30) ∧ Shp M31 ∧ (Call e mX7_lay [vR 49, vI l3, vI z30, vI p, vI (0 : Int), vI (5 : Int)] M31 (fun r38 M36 => r38 = none ∧ Shp M36 ∧ (Run (e + 1) mX10_held 63 [some (vR 6), some (vI p), some (vI l2), some (vI (w32 (l3 + (1 : Int)))), l4, l5] [] M36 Q))))))))) :
  Run (e + 1) mX10_held 63 [some (vR 6), some (vI p), some (vI l2), some (vI l3), l4, l5] [] M Q := by
  refine r_iload_n dX10_held_63 rfl ?_
  refine r_bipush dX10_held_64 (by decide) ?_
  refine r_icmp_ge dX10_held_66 rfl (fun c23 => ?_) (fun c23 => ?_)
  · refine r_aload_n dX10_held_103 rfl ?_
    refine r_getS (v := 29) dX10_held_104 kF10_50 (sh_o hS kk6 (by decide)) (sh_f hS rr6_9 (by decide)) ?_
    refine r_aload_n dX10_held_107 rfl ?_
    refine r_getS (v := 49) dX10_held_108 kF10_64 (sh_o hS kk6 (by decide)) (sh_f hS rr6_12 (by decide)) ?_
    refine r_invV_v dX10_held_111 kM10_203 (by decide) (Nat.le_of_ble_eq_true rfl) rfl rfl (Nat.le_of_ble_eq_true rfl) (Nat.le_of_ble_eq_true rfl) (sh_o hS kk29 (by decide)) (Call.mono (h.1 c23) (Nat.le_refl _) ?_)
    rintro _ M25 ⟨rfl, s28, h26⟩
    refine ⟨rfl, ?_⟩
    refine r_iconst dX10_held_114 (by decide) ?_
    refine r_istore_n (ls2 := [some (vR 6), some (vI p), some (vI l2), some (vI (-1 : Int)), l4, l5]) dX10_held_115 (Nat.le_of_ble_eq_true rfl) rfl ?_
    refine r_iconst dX10_held_116 (by decide) ?_
    refine r_istore (ls2 := [some (vR 6), some (vI p), some (vI l2), some (vI (-1 : Int)), some (vI (1 : Int)), l5]) dX10_held_117 (Nat.le_of_ble_eq_true rfl) rfl ?_
    exact h26
  · refine r_iload_n dX10_held_69 rfl ?_
    refine r_iload_n dX10_held_70 rfl ?_
    refine r_ishr dX10_held_71 ?_
    refine r_iconst dX10_held_72 (by decide) ?_
    refine r_iand dX10_held_73 ?_
    refine r_iconst dX10_held_74 (by decide) ?_
    refine r_icmp_ne dX10_held_75 rfl (fun c29 => ?_) (fun c29 => ?_)
    · refine r_iinc (ls2 := [some (vR 6), some (vI p), some (vI l2), some (vI (w32 (l3 + (1 : Int)))), l4, l5]) dX10_held_97 rfl rfl ?_
      refine r_goto (tgt := 63) dX10_held_100 rfl ?_
      exact ((h.2 c23).1 c29)
    · refine r_aload_n dX10_held_78 rfl ?_
      refine r_getS (v := 49) dX10_held_79 kF10_64 (sh_o hS kk6 (by decide)) (sh_f hS rr6_12 (by decide)) ?_
      refine r_iload_n dX10_held_82 rfl ?_
      refine r_aload_n dX10_held_83 rfl ?_
      refine r_getS (v := 33) dX10_held_84 kF10_57 (sh_o hS kk6 (by decide)) (sh_f hS rr6_10 (by decide)) ?_
      refine r_iload_n dX10_held_87 rfl ?_
      refine r_invV_i dX10_held_88 kM10_271 (by decide) (Nat.le_of_ble_eq_true rfl) rfl rfl (Nat.le_of_ble_eq_true rfl) (Nat.le_of_ble_eq_true rfl) (sh_o hS kk33 (by decide)) (Call.mono ((h.2 c23).2 c29) (Nat.le_refl _) ?_)
      rintro _ M31 ⟨z30, rfl, s34, h32⟩
      refine ⟨_, rfl, ?_⟩
      refine r_iload_n dX10_held_91 rfl ?_
      refine r_iconst dX10_held_92 (by decide) ?_
      refine r_iconst dX10_held_93 (by decide) ?_
      refine r_invV_v dX10_held_94 kM10_274 (by decide) (Nat.le_of_ble_eq_true rfl) rfl rfl (Nat.le_of_ble_eq_true rfl) (Nat.le_of_ble_eq_true rfl) (sh_o s34 kk49 (by decide)) (Call.mono h32 (Nat.le_refl _) ?_)
      rintro _ M36 ⟨rfl, s39, h37⟩
      refine ⟨rfl, ?_⟩
      refine r_iinc (ls2 := [some (vR 6), some (vI p), some (vI l2), some (vI (w32 (l3 + (1 : Int)))), l4, l5]) dX10_held_97 rfl rfl ?_
      refine r_goto (tgt := 63) dX10_held_100 rfl ?_
      exact h37
theorem vx_held_119 {e : Nat} {M : jM} {Q : Option jV → jM → Prop} {p : Int} {l2 : Int} {l3 : Int} {l4 : Int} {l5 : Option jV}  (he : 4 ≤ e) (hS : Shp M)
  (h : (((256 : Int) ≤ l4) → (Q (some (vI l3)) M)) ∧ (¬ ((256 : Int) ≤ l4) → (((l3 = (-1 : Int)) → ((((jand l4 (jxor l2 (-1 : Int))) ≠ (0 : Int)) → (Run (e + 1) mX10_held 119 [some (vR 6), some (vI p), some (vI l2), some (vI l3), some (vI (w32 (l4 + (1 : Int)))), some (vI (1 : Int))] [] M Q)) ∧ (¬ ((jand l4 (jxor l2 (-1 : Int))) ≠ (0 : Int)) → (Call e mX10_isHeldBy [vR 6, vI l4, vI l2, vI p] M (fun r46 M44 => ∃ z43 : Int, r46 = some (vI z43) ∧ Shp M44 ∧ (((z43 = (0 : Int)) → (Run (e + 1) mX10_held 119 [some (vR 6), some (vI p), some (vI l2), some (vI l3), some (vI (w32 (l4 + (1 : Int)))), some (vI (1 : Int))] [] M44 Q)) ∧ (¬ (z43 = (0 : Int)) → (Run (e + 1) mX10_held 119 [some (vR 6), some (vI p), some (vI l2), some (vI l4), some (vI (w32 (l4 + (1 : Int)))), some (vI (1 : Int))] [] M44 Q)))))))) ∧ (¬ (l3 = (-1 : Int)) → (Call e mJ6_bitCount_0f7a4 [vI l4] M (fun r52 M50 => ∃ z49 : Int, r52 = some (vI z49) ∧ Shp M50 ∧ (Call e mJ6_bitCount_0f7a4 [vI l3] M50 (fun r57 M55 => ∃ z54 : Int, r57 = some (vI z54) ∧ Shp M55 ∧ ((((jand l4 (jxor l2 (-1 : Int))) ≠ (0 : Int)) → (Run (e + 1) mX10_held 119 [some (vR 6), some (vI p), some (vI l2), some (vI l3), some (vI (w32 (l4 + (1 : Int)))), some (vI (if z54 ≤ z49 then (0 : Int) else (1 : Int)))] [] M55 Q)) ∧ (¬ ((jand l4 (jxor l2 (-1 : Int))) ≠ (0 : Int)) → ((((if z54 ≤ z49 then (0 : Int) else (1 : Int)) = (0 : Int)) → (Run (e + 1) mX10_held 119 [some (vR 6), some (vI p), some (vI l2), some (vI l3), some (vI (w32 (l4 + (1 : Int)))), some (vI (if z54 ≤ z49 then (0 : Int) else (1 : Int)))] [] M55 Q)) ∧ (¬ ((if z54 ≤ z49 then (0 : Int) else (1 : Int)) = (0 : Int)) → (Call e mX10_isHeldBy [vR 6, vI l4, vI l2, vI p] M55 (fun r64 M62 => ∃ z61 : Int, r64 = some (vI z61) ∧ Shp M62 ∧ (((z61 = (0 : Int)) → (Run (e + 1) mX10_held 119 [some (vR 6), some (vI p), some (vI l2), some (vI l3), some (vI (w32 (l4 + (1 : Int)))), some (vI (if z54 ≤ z49 then (0 : Int) else (1 : Int)))] [] M62 Q)) ∧ (¬ (z61 = (0 : Int)) → (Run (e + 1) mX10_held 119 [some (vR 6), some (vI p), some (vI l2), some (vI l4), some (vI (w32 (l4 + (1 : Int)))), some (vI (if z54 ≤ z49 then (0 : Int) else (1 : Int)))] [] M62 Q))))))))))))))))) :
  Run (e + 1) mX10_held 119 [some (vR 6), some (vI p), some (vI l2), some (vI l3), some (vI l4), l5] [] M Q := by
  refine r_iload dX10_held_119 rfl ?_
  refine r_sipush dX10_held_121 (by decide) ?_
  refine r_icmp_ge dX10_held_124 rfl (fun c40 => ?_) (fun c40 => ?_)
  · refine r_iload_n dX10_held_185 rfl ?_
    exact r_iret dX10_held_186 rfl (h.1 c40)
  · refine r_iload_n dX10_held_127 rfl ?_
    refine r_iconst dX10_held_128 (by decide) ?_
    refine r_icmp_eq dX10_held_129 rfl (fun c41 => ?_) (fun c41 => ?_)
    · refine r_iconst dX10_held_144 (by decide) ?_
      refine r_goto (tgt := 149) dX10_held_145 rfl ?_
      refine r_istore (ls2 := [some (vR 6), some (vI p), some (vI l2), some (vI l3), some (vI l4), some (vI (1 : Int))]) dX10_held_149 (Nat.le_of_ble_eq_true rfl) rfl ?_
      refine r_iload dX10_held_151 rfl ?_
      refine r_iload_n dX10_held_153 rfl ?_
      refine r_iconst dX10_held_154 (by decide) ?_
      refine r_ixor dX10_held_155 ?_
      refine r_iand dX10_held_156 ?_
      refine r_if_ne dX10_held_157 rfl (fun c42 => ?_) (fun c42 => ?_)
      · refine r_iinc (ls2 := [some (vR 6), some (vI p), some (vI l2), some (vI l3), some (vI (w32 (l4 + (1 : Int)))), some (vI (1 : Int))]) dX10_held_179 rfl rfl ?_
        refine r_goto (tgt := 119) dX10_held_182 rfl ?_
        exact (((h.2 c40).1 c41).1 c42)
      · refine r_iload dX10_held_160 rfl ?_
        refine r_if_eq dX10_held_162 rfl (fun q => absurd q (by decide)) (fun _ => ?_)
        refine r_aload_n dX10_held_165 rfl ?_
        refine r_iload dX10_held_166 rfl ?_
        refine r_iload_n dX10_held_168 rfl ?_
        refine r_iload_n dX10_held_169 rfl ?_
        refine r_invV_i dX10_held_170 kM10_345 (by decide) (Nat.le_of_ble_eq_true rfl) rfl rfl (Nat.le_of_ble_eq_true rfl) (Nat.le_of_ble_eq_true rfl) (sh_o hS kk6 (by decide)) (Call.mono (((h.2 c40).1 c41).2 c42) (Nat.le_refl _) ?_)
        rintro _ M44 ⟨z43, rfl, s47, h45⟩
        refine ⟨_, rfl, ?_⟩
        refine r_if_eq dX10_held_173 rfl (fun c48 => ?_) (fun c48 => ?_)
        · refine r_iinc (ls2 := [some (vR 6), some (vI p), some (vI l2), some (vI l3), some (vI (w32 (l4 + (1 : Int)))), some (vI (1 : Int))]) dX10_held_179 rfl rfl ?_
          refine r_goto (tgt := 119) dX10_held_182 rfl ?_
          exact (h45.1 c48)
        · refine r_iload dX10_held_176 rfl ?_
          refine r_istore_n (ls2 := [some (vR 6), some (vI p), some (vI l2), some (vI l4), some (vI l4), some (vI (1 : Int))]) dX10_held_178 (Nat.le_of_ble_eq_true rfl) rfl ?_
          refine r_iinc (ls2 := [some (vR 6), some (vI p), some (vI l2), some (vI l4), some (vI (w32 (l4 + (1 : Int)))), some (vI (1 : Int))]) dX10_held_179 rfl rfl ?_
          refine r_goto (tgt := 119) dX10_held_182 rfl ?_
          exact (h45.2 c48)
    · refine r_iload dX10_held_132 rfl ?_
      refine r_invS_i dX10_held_134 (by decide) kXn10_340 kM10_340 (by decide) (Nat.le_of_ble_eq_true rfl) rfl rfl (Nat.le_of_ble_eq_true rfl) (Nat.le_of_ble_eq_true rfl) (Call.mono ((h.2 c40).2 c41) (Nat.le_refl _) ?_)
      rintro _ M50 ⟨z49, rfl, s53, h51⟩
      refine ⟨_, rfl, ?_⟩
      refine r_iload_n dX10_held_137 rfl ?_
      refine r_invS_i dX10_held_138 (by decide) kXn10_340 kM10_340 (by decide) (Nat.le_of_ble_eq_true rfl) rfl rfl (Nat.le_of_ble_eq_true rfl) (Nat.le_of_ble_eq_true rfl) (Call.mono h51 (Nat.le_refl _) ?_)
      rintro _ M55 ⟨z54, rfl, s58, h56⟩
      refine ⟨_, rfl, ?_⟩
      have K67 : Run (e + 1) mX10_held 149 [some (vR 6), some (vI p), some (vI l2), some (vI l3), some (vI l4), l5] [vI (if z54 ≤ z49 then (0 : Int) else (1 : Int))] M55 Q := by
        refine r_istore (ls2 := [some (vR 6), some (vI p), some (vI l2), some (vI l3), some (vI l4), some (vI (if z54 ≤ z49 then (0 : Int) else (1 : Int)))]) dX10_held_149 (Nat.le_of_ble_eq_true rfl) rfl ?_
        refine r_iload dX10_held_151 rfl ?_
        refine r_iload_n dX10_held_153 rfl ?_
        refine r_iconst dX10_held_154 (by decide) ?_
        refine r_ixor dX10_held_155 ?_
        refine r_iand dX10_held_156 ?_
        refine r_if_ne dX10_held_157 rfl (fun c59 => ?_) (fun c59 => ?_)
        · refine r_iinc (ls2 := [some (vR 6), some (vI p), some (vI l2), some (vI l3), some (vI (w32 (l4 + (1 : Int)))), some (vI (if z54 ≤ z49 then (0 : Int) else (1 : Int)))]) dX10_held_179 rfl rfl ?_
          refine r_goto (tgt := 119) dX10_held_182 rfl ?_
          exact (h56.1 c59)
        · refine r_iload dX10_held_160 rfl ?_
          refine r_if_eq dX10_held_162 rfl (fun c60 => ?_) (fun c60 => ?_)
          · refine r_iinc (ls2 := [some (vR 6), some (vI p), some (vI l2), some (vI l3), some (vI (w32 (l4 + (1 : Int)))), some (vI (if z54 ≤ z49 then (0 : Int) else (1 : Int)))]) dX10_held_179 rfl rfl ?_
            refine r_goto (tgt := 119) dX10_held_182 rfl ?_
            exact ((h56.2 c59).1 c60)
          · refine r_aload_n dX10_held_165 rfl ?_
            refine r_iload dX10_held_166 rfl ?_
            refine r_iload_n dX10_held_168 rfl ?_
            refine r_iload_n dX10_held_169 rfl ?_
            refine r_invV_i dX10_held_170 kM10_345 (by decide) (Nat.le_of_ble_eq_true rfl) rfl rfl (Nat.le_of_ble_eq_true rfl) (Nat.le_of_ble_eq_true rfl) (sh_o s58 kk6 (by decide)) (Call.mono ((h56.2 c59).2 c60) (Nat.le_refl _) ?_)
            rintro _ M62 ⟨z61, rfl, s65, h63⟩
            refine ⟨_, rfl, ?_⟩
            refine r_if_eq dX10_held_173 rfl (fun c66 => ?_) (fun c66 => ?_)
            · refine r_iinc (ls2 := [some (vR 6), some (vI p), some (vI l2), some (vI l3), some (vI (w32 (l4 + (1 : Int)))), some (vI (if z54 ≤ z49 then (0 : Int) else (1 : Int)))]) dX10_held_179 rfl rfl ?_
              refine r_goto (tgt := 119) dX10_held_182 rfl ?_
              exact (h63.1 c66)
            · refine r_iload dX10_held_176 rfl ?_
              refine r_istore_n (ls2 := [some (vR 6), some (vI p), some (vI l2), some (vI l4), some (vI l4), some (vI (if z54 ≤ z49 then (0 : Int) else (1 : Int)))]) dX10_held_178 (Nat.le_of_ble_eq_true rfl) rfl ?_
              refine r_iinc (ls2 := [some (vR 6), some (vI p), some (vI l2), some (vI l4), some (vI (w32 (l4 + (1 : Int)))), some (vI (if z54 ≤ z49 then (0 : Int) else (1 : Int)))]) dX10_held_179 rfl rfl ?_
              refine r_goto (tgt := 119) dX10_held_182 rfl ?_
              exact (h63.2 c66)
      refine r_icmp_ge dX10_held_141 rfl (fun q68 => ?_) (fun q68 => ?_)
      · rw [if_pos q68] at K67
        refine r_iconst dX10_held_148 (by decide) ?_
        exact K67
      · rw [if_neg q68] at K67
        refine r_iconst dX10_held_144 (by decide) ?_
        refine r_goto (tgt := 149) dX10_held_145 rfl ?_
        exact K67
theorem vx_isHeldBy {e : Nat} {M : jM} {Q : Option jV → jM → Prop} {sm : Int} {ab : Int} {p : Int} (he : 4 ≤ e) (hS : Shp M)
  (h : Run (e + 1) mX10_isHeldBy 3 [some (vR 6), some (vI sm), some (vI ab), some (vI p), some (vI (0 : Int)), none] [] M Q) :
  Call (e + 1) mX10_isHeldBy [vR 6, vI sm, vI ab, vI p] M Q := by
  show Run (e + 1) mX10_isHeldBy 0 [some (vR 6), some (vI sm), some (vI ab), some (vI p), none, none] [] M Q
  refine r_iconst dX10_isHeldBy_0 (by decide) ?_
  refine r_istore (ls2 := [some (vR 6), some (vI sm), some (vI ab), some (vI p), some (vI (0 : Int)), none]) dX10_isHeldBy_1 (Nat.le_of_ble_eq_true rfl) rfl ?_
  exact h
theorem vx_isHeldBy_3 {e : Nat} {M : jM} {Q : Option jV → jM → Prop} {sm : Int} {ab : Int} {p : Int} {l4 : Int} {l5 : Option jV}  (he : 4 ≤ e) (hS : Shp M)
  (h : (((8 : Int) ≤ l4) → (Call e mX7_floats [vR 49, vI p] M (fun r5 M3 => ∃ z2 : Int, r5 = some (vI z2) ∧ Shp M3 ∧ (Q (some (vI (if z2 ≠ (0 : Int) then (0 : Int) else (1 : Int)))) M3)))) ∧ (¬ ((8 : Int) ≤ l4) → ((((jand (jshr ab l4) (1 : Int)) ≠ (1 : Int)) → (Run (e + 1) mX10_isHeldBy 3 [some (vR 6), some (vI sm), some (vI ab), some (vI p), some (vI (w32 (l4 + (1 : Int)))), l5] [] M Q)) ∧ (¬ ((jand (jshr ab l4) (1 : Int)) ≠ (1 : Int)) → (Call e mX7_emptyPlace [vR 33, vI l4] M (fun r11 M9 => ∃ z8 : Int, r11 = some (vI z8) ∧ Shp M9 ∧ (∀ N13 : jM, N13 = (ptv M9 32 50 (w32 ((w32 (l4 * (4 : Int))) + z8)) (if (jand (jshr sm l4) (1 : Int)) ≠ (1 : Int) then (-1 : Int) else p)) → Shp N13 → (Run (e + 1) mX10_isHeldBy 3 [some (vR 6), some (vI sm), some (vI ab), some (vI p), some (vI (w32 (l4 + (1 : Int)))), some (vI (w32 ((w32 (l4 * (4 : Int))) + z8)))] [] N13 Q)))))))) :
  Run (e + 1) mX10_isHeldBy 3 [some (vR 6), some (vI sm), some (vI ab), some (vI p), some (vI l4), l5] [] M Q := by
  refine r_iload dX10_isHeldBy_3 rfl ?_
  refine r_bipush dX10_isHeldBy_5 (by decide) ?_
  refine r_icmp_ge dX10_isHeldBy_7 rfl (fun c1 => ?_) (fun c1 => ?_)
  · refine r_aload_n dX10_isHeldBy_69 rfl ?_
    refine r_getS (v := 49) dX10_isHeldBy_70 kF10_64 (sh_o hS kk6 (by decide)) (sh_f hS rr6_12 (by decide)) ?_
    refine r_iload_n dX10_isHeldBy_73 rfl ?_
    refine r_invV_i dX10_isHeldBy_74 kM10_317 (by decide) (Nat.le_of_ble_eq_true rfl) rfl rfl (Nat.le_of_ble_eq_true rfl) (Nat.le_of_ble_eq_true rfl) (sh_o hS kk49 (by decide)) (Call.mono (h.1 c1) (Nat.le_refl _) ?_)
    rintro _ M3 ⟨z2, rfl, s6, h4⟩
    refine ⟨_, rfl, ?_⟩
    have K15 : Run (e + 1) mX10_isHeldBy 85 [some (vR 6), some (vI sm), some (vI ab), some (vI p), some (vI l4), l5] [vI (if z2 ≠ (0 : Int) then (0 : Int) else (1 : Int))] M3 Q := by
      exact r_zret dX10_isHeldBy_85 rfl (by (repeat' split) <;> first | exact Or.inl rfl | exact Or.inr rfl) h4
    refine r_if_ne dX10_isHeldBy_77 rfl (fun q16 => ?_) (fun q16 => ?_)
    · rw [if_pos q16] at K15
      refine r_iconst dX10_isHeldBy_84 (by decide) ?_
      exact K15
    · rw [if_neg q16] at K15
      refine r_iconst dX10_isHeldBy_80 (by decide) ?_
      refine r_goto (tgt := 85) dX10_isHeldBy_81 rfl ?_
      exact K15
  · refine r_iload_n dX10_isHeldBy_10 rfl ?_
    refine r_iload dX10_isHeldBy_11 rfl ?_
    refine r_ishr dX10_isHeldBy_13 ?_
    refine r_iconst dX10_isHeldBy_14 (by decide) ?_
    refine r_iand dX10_isHeldBy_15 ?_
    refine r_iconst dX10_isHeldBy_16 (by decide) ?_
    refine r_icmp_ne dX10_isHeldBy_17 rfl (fun c7 => ?_) (fun c7 => ?_)
    · refine r_iinc (ls2 := [some (vR 6), some (vI sm), some (vI ab), some (vI p), some (vI (w32 (l4 + (1 : Int)))), l5]) dX10_isHeldBy_63 rfl rfl ?_
      refine r_goto (tgt := 3) dX10_isHeldBy_66 rfl ?_
      exact ((h.2 c1).1 c7)
    · refine r_iload dX10_isHeldBy_20 rfl ?_
      refine r_iconst dX10_isHeldBy_22 (by decide) ?_
      refine r_imul dX10_isHeldBy_23 ?_
      refine r_aload_n dX10_isHeldBy_24 rfl ?_
      refine r_getS (v := 33) dX10_isHeldBy_25 kF10_57 (sh_o hS kk6 (by decide)) (sh_f hS rr6_10 (by decide)) ?_
      refine r_iload dX10_isHeldBy_28 rfl ?_
      refine r_invV_i dX10_isHeldBy_30 kM10_271 (by decide) (Nat.le_of_ble_eq_true rfl) rfl rfl (Nat.le_of_ble_eq_true rfl) (Nat.le_of_ble_eq_true rfl) (sh_o hS kk33 (by decide)) (Call.mono ((h.2 c1).2 c7) (Nat.le_refl _) ?_)
      rintro _ M9 ⟨z8, rfl, s12, h10⟩
      refine ⟨_, rfl, ?_⟩
      refine r_iadd dX10_isHeldBy_33 ?_
      refine r_istore (ls2 := [some (vR 6), some (vI sm), some (vI ab), some (vI p), some (vI l4), some (vI (w32 ((w32 (l4 * (4 : Int))) + z8)))]) dX10_isHeldBy_34 (Nat.le_of_ble_eq_true rfl) rfl ?_
      refine r_aload_n dX10_isHeldBy_36 rfl ?_
      refine r_getS (v := 49) dX10_isHeldBy_37 kF10_64 (sh_o s12 kk6 (by decide)) (sh_f s12 rr6_12 (by decide)) ?_
      refine r_getS (v := 50) dX10_isHeldBy_40 kF10_223 (sh_o s12 kk49 (by decide)) (st_f0 s12 (by decide)) ?_
      refine r_iload dX10_isHeldBy_43 rfl ?_
      refine r_iload_n dX10_isHeldBy_45 rfl ?_
      refine r_iload dX10_isHeldBy_46 rfl ?_
      refine r_ishr dX10_isHeldBy_48 ?_
      refine r_iconst dX10_isHeldBy_49 (by decide) ?_
      refine r_iand dX10_isHeldBy_50 ?_
      refine r_iconst dX10_isHeldBy_51 (by decide) ?_
      have K18 : Run (e + 1) mX10_isHeldBy 60 [some (vR 6), some (vI sm), some (vI ab), some (vI p), some (vI l4), some (vI (w32 ((w32 (l4 * (4 : Int))) + z8)))] [vI (if (jand (jshr sm l4) (1 : Int)) ≠ (1 : Int) then (-1 : Int) else p), vI (w32 ((w32 (l4 * (4 : Int))) + z8)), vR 50] M9 Q := by
        refine r_invS_v dX10_isHeldBy_60 (by decide) kXn10_278 kM10_278 (by decide) (Nat.le_of_ble_eq_true rfl) rfl rfl (Nat.le_of_ble_eq_true rfl) (Nat.le_of_ble_eq_true rfl) (c_put (by omega) (sh_r s12 kk50 (by decide)) (by decide) ⟨rfl, ?_⟩)
        have K20 : ∀ N13 : jM, N13 = (ptv M9 32 50 (w32 ((w32 (l4 * (4 : Int))) + z8)) (if (jand (jshr sm l4) (1 : Int)) ≠ (1 : Int) then (-1 : Int) else p)) → Run (e + 1) mX10_isHeldBy 63 [some (vR 6), some (vI sm), some (vI ab), some (vI p), some (vI l4), some (vI (w32 ((w32 (l4 * (4 : Int))) + z8)))] [] N13 Q := by
          intro N13 hN19
          have sN14 : Shp N13 := by rw [hN19]; exact s12
          refine r_iinc (ls2 := [some (vR 6), some (vI sm), some (vI ab), some (vI p), some (vI (w32 (l4 + (1 : Int)))), some (vI (w32 ((w32 (l4 * (4 : Int))) + z8)))]) dX10_isHeldBy_63 rfl rfl ?_
          refine r_goto (tgt := 3) dX10_isHeldBy_66 rfl ?_
          exact (h10 N13 hN19 sN14)
        exact K20 _ rfl
      refine r_icmp_ne dX10_isHeldBy_52 rfl (fun q21 => ?_) (fun q21 => ?_)
      · rw [if_pos q21] at K18
        refine r_iconst dX10_isHeldBy_59 (by decide) ?_
        exact K18
      · rw [if_neg q21] at K18
        refine r_iload_n dX10_isHeldBy_55 rfl ?_
        refine r_goto (tgt := 60) dX10_isHeldBy_56 rfl ?_
        exact K18
theorem vx_eased {e : Nat} {M : jM} {Q : Option jV → jM → Prop} {p : Int} (he : 4 ≤ e) (hS : Shp M)
  (h : (((if 0 ≤ p ∧ p < iv M 29 0 then (1 : Int) else (0 : Int)) ≠ (0 : Int)) → (Call e mX7_copyMinds [vR 49, vR 33] M (fun r5 M3 => r5 = none ∧ Shp M3 ∧ (Call e mX1_weigh [vR 29, vR 49] M3 (fun r10 M8 => r10 = none ∧ Shp M8 ∧ (Run (e + 1) mX10_eased 37 [some (vR 6), some (vI p), some (vI (0 : Int)), none] [] M8 Q)))))) ∧ (¬ ((if 0 ≤ p ∧ p < iv M 29 0 then (1 : Int) else (0 : Int)) ≠ (0 : Int)) → (Q (some (vI (-1 : Int))) M))) :
  Call (e + 1) mX10_eased [vR 6, vI p] M Q := by
  show Run (e + 1) mX10_eased 0 [some (vR 6), some (vI p), none, none] [] M Q
  refine r_aload_n dX10_eased_0 rfl ?_
  refine r_getS (v := 29) dX10_eased_1 kF10_50 (sh_o hS kk6 (by decide)) (sh_f hS rr6_9 (by decide)) ?_
  refine r_iload_n dX10_eased_4 rfl ?_
  refine r_invV_i dX10_eased_5 kM10_179 (by decide) (Nat.le_of_ble_eq_true rfl) rfl rfl (Nat.le_of_ble_eq_true rfl) (Nat.le_of_ble_eq_true rfl) (sh_o hS kk29 (by decide)) (i_has (by omega) hS ⟨_, rfl, ?_⟩)
  refine r_if_ne dX10_eased_8 rfl (fun c1 => ?_) (fun c1 => ?_)
  · refine r_aload_n dX10_eased_13 rfl ?_
    refine r_getS (v := 49) dX10_eased_14 kF10_64 (sh_o hS kk6 (by decide)) (sh_f hS rr6_12 (by decide)) ?_
    refine r_aload_n dX10_eased_17 rfl ?_
    refine r_getS (v := 33) dX10_eased_18 kF10_57 (sh_o hS kk6 (by decide)) (sh_f hS rr6_10 (by decide)) ?_
    refine r_invV_v dX10_eased_21 kM10_314 (by decide) (Nat.le_of_ble_eq_true rfl) rfl rfl (Nat.le_of_ble_eq_true rfl) (Nat.le_of_ble_eq_true rfl) (sh_o hS kk49 (by decide)) (Call.mono (h.1 c1) (Nat.le_refl _) ?_)
    rintro _ M3 ⟨rfl, s6, h4⟩
    refine ⟨rfl, ?_⟩
    refine r_aload_n dX10_eased_24 rfl ?_
    refine r_getS (v := 29) dX10_eased_25 kF10_50 (sh_o s6 kk6 (by decide)) (sh_f s6 rr6_9 (by decide)) ?_
    refine r_aload_n dX10_eased_28 rfl ?_
    refine r_getS (v := 49) dX10_eased_29 kF10_64 (sh_o s6 kk6 (by decide)) (sh_f s6 rr6_12 (by decide)) ?_
    refine r_invV_v dX10_eased_32 kM10_203 (by decide) (Nat.le_of_ble_eq_true rfl) rfl rfl (Nat.le_of_ble_eq_true rfl) (Nat.le_of_ble_eq_true rfl) (sh_o s6 kk29 (by decide)) (Call.mono h4 (Nat.le_refl _) ?_)
    rintro _ M8 ⟨rfl, s11, h9⟩
    refine ⟨rfl, ?_⟩
    refine r_iconst dX10_eased_35 (by decide) ?_
    refine r_istore_n (ls2 := [some (vR 6), some (vI p), some (vI (0 : Int)), none]) dX10_eased_36 (Nat.le_of_ble_eq_true rfl) rfl ?_
    exact h9
  · refine r_iconst dX10_eased_11 (by decide) ?_
    exact r_iret dX10_eased_12 rfl (h.2 c1)
theorem vx_eased_37 {e : Nat} {M : jM} {Q : Option jV → jM → Prop} {p : Int} {l2 : Int} {l3 : Option jV}  (he : 4 ≤ e) (hS : Shp M)
  (h : (((32 : Int) ≤ l2) → (Q (some (vI (32 : Int))) M)) ∧ (¬ ((32 : Int) ≤ l2) → (Call e mX7_heaviestThoughtOf [vR 49, vI p] M (fun r16 M14 => ∃ z13 : Int, r16 = some (vI z13) ∧ Shp M14 ∧ (((z13 = (-1 : Int)) → (Q (some (vI l2)) M14)) ∧ (¬ (z13 = (-1 : Int)) → (Call e mX1_sinks [vR 29, vR 49, vI p] M14 (fun r22 M20 => ∃ z19 : Int, r22 = some (vI z19) ∧ Shp M20 ∧ (((z19 ≠ (0 : Int)) → (∀ N25 : jM, N25 = (ptv M20 32 50 z13 (-1 : Int)) → Shp N25 → (Run (e + 1) mX10_eased 37 [some (vR 6), some (vI p), some (vI (w32 (l2 + (1 : Int)))), some (vI z13)] [] N25 Q))) ∧ (¬ (z19 ≠ (0 : Int)) → (Q (some (vI l2)) M20))))))))))) :
  Run (e + 1) mX10_eased 37 [some (vR 6), some (vI p), some (vI l2), l3] [] M Q := by
  refine r_iload_n dX10_eased_37 rfl ?_
  refine r_bipush dX10_eased_38 (by decide) ?_
  refine r_icmp_ge dX10_eased_40 rfl (fun c12 => ?_) (fun c12 => ?_)
  · refine r_bipush dX10_eased_92 (by decide) ?_
    exact r_iret dX10_eased_94 rfl (h.1 c12)
  · refine r_aload_n dX10_eased_43 rfl ?_
    refine r_getS (v := 49) dX10_eased_44 kF10_64 (sh_o hS kk6 (by decide)) (sh_f hS rr6_12 (by decide)) ?_
    refine r_iload_n dX10_eased_47 rfl ?_
    refine r_invV_i dX10_eased_48 kM10_349 (by decide) (Nat.le_of_ble_eq_true rfl) rfl rfl (Nat.le_of_ble_eq_true rfl) (Nat.le_of_ble_eq_true rfl) (sh_o hS kk49 (by decide)) (Call.mono (h.2 c12) (Nat.le_refl _) ?_)
    rintro _ M14 ⟨z13, rfl, s17, h15⟩
    refine ⟨_, rfl, ?_⟩
    refine r_istore_n (ls2 := [some (vR 6), some (vI p), some (vI l2), some (vI z13)]) dX10_eased_51 (Nat.le_of_ble_eq_true rfl) rfl ?_
    refine r_iload_n dX10_eased_52 rfl ?_
    refine r_iconst dX10_eased_53 (by decide) ?_
    refine r_icmp_eq dX10_eased_54 rfl (fun c18 => ?_) (fun c18 => ?_)
    · refine r_iload_n dX10_eased_72 rfl ?_
      exact r_iret dX10_eased_73 rfl (h15.1 c18)
    · refine r_aload_n dX10_eased_57 rfl ?_
      refine r_getS (v := 29) dX10_eased_58 kF10_50 (sh_o s17 kk6 (by decide)) (sh_f s17 rr6_9 (by decide)) ?_
      refine r_aload_n dX10_eased_61 rfl ?_
      refine r_getS (v := 49) dX10_eased_62 kF10_64 (sh_o s17 kk6 (by decide)) (sh_f s17 rr6_12 (by decide)) ?_
      refine r_iload_n dX10_eased_65 rfl ?_
      refine r_invV_i dX10_eased_66 kM10_352 (by decide) (Nat.le_of_ble_eq_true rfl) rfl rfl (Nat.le_of_ble_eq_true rfl) (Nat.le_of_ble_eq_true rfl) (sh_o s17 kk29 (by decide)) (Call.mono (h15.2 c18) (Nat.le_refl _) ?_)
      rintro _ M20 ⟨z19, rfl, s23, h21⟩
      refine ⟨_, rfl, ?_⟩
      refine r_if_ne dX10_eased_69 rfl (fun c24 => ?_) (fun c24 => ?_)
      · refine r_aload_n dX10_eased_74 rfl ?_
        refine r_getS (v := 49) dX10_eased_75 kF10_64 (sh_o s23 kk6 (by decide)) (sh_f s23 rr6_12 (by decide)) ?_
        refine r_getS (v := 50) dX10_eased_78 kF10_223 (sh_o s23 kk49 (by decide)) (st_f0 s23 (by decide)) ?_
        refine r_iload_n dX10_eased_81 rfl ?_
        refine r_iconst dX10_eased_82 (by decide) ?_
        refine r_invS_v dX10_eased_83 (by decide) kXn10_278 kM10_278 (by decide) (Nat.le_of_ble_eq_true rfl) rfl rfl (Nat.le_of_ble_eq_true rfl) (Nat.le_of_ble_eq_true rfl) (c_put (by omega) (sh_r s23 kk50 (by decide)) (by decide) ⟨rfl, ?_⟩)
        have K28 : ∀ N25 : jM, N25 = (ptv M20 32 50 z13 (-1 : Int)) → Run (e + 1) mX10_eased 86 [some (vR 6), some (vI p), some (vI l2), some (vI z13)] [] N25 Q := by
          intro N25 hN27
          have sN26 : Shp N25 := by rw [hN27]; exact s23
          refine r_iinc (ls2 := [some (vR 6), some (vI p), some (vI (w32 (l2 + (1 : Int)))), some (vI z13)]) dX10_eased_86 rfl rfl ?_
          refine r_goto (tgt := 37) dX10_eased_89 rfl ?_
          exact ((h21.1 c24) N25 hN27 sN26)
        exact K28 _ rfl
      · refine r_iload_n dX10_eased_72 rfl ?_
        exact r_iret dX10_eased_73 rfl (h21.2 c24)
theorem vx_odds {e : Nat} {M : jM} {Q : Option jV → jM → Prop} {p : Int} {n : Int} {c : Int} (he : 4 ≤ e) (hS : Shp M)
  (h : (((if 0 ≤ p ∧ p < iv M 29 0 then (1 : Int) else (0 : Int)) = (0 : Int)) → (Q (some (vI (-1 : Int))) M)) ∧ (¬ ((if 0 ≤ p ∧ p < iv M 29 0 then (1 : Int) else (0 : Int)) = (0 : Int)) → (((n < (0 : Int)) → (Q (some (vI (-1 : Int))) M)) ∧ (¬ (n < (0 : Int)) → ((((6 : Int) < n) → (Q (some (vI (-1 : Int))) M)) ∧ (¬ ((6 : Int) < n) → (((c < (0 : Int)) → (Q (some (vI (-1 : Int))) M)) ∧ (¬ (c < (0 : Int)) → (((c ≤ (100 : Int)) → (Call e mX9_partsThatFloat [vR 409, vR 33, vR 29, vI p, vI n, vI c] M (fun r9 M7 => ∃ z6 : Int, r9 = some (vL z6) ∧ Shp M7 ∧ (Q (some (vI (w32 z6))) M7)))) ∧ (¬ (c ≤ (100 : Int)) → (Q (some (vI (-1 : Int))) M))))))))))) :
  Call (e + 1) mX10_odds [vR 6, vI p, vI n, vI c] M Q := by
  show Run (e + 1) mX10_odds 0 [some (vR 6), some (vI p), some (vI n), some (vI c)] [] M Q
  refine r_aload_n dX10_odds_0 rfl ?_
  refine r_getS (v := 29) dX10_odds_1 kF10_50 (sh_o hS kk6 (by decide)) (sh_f hS rr6_9 (by decide)) ?_
  refine r_iload_n dX10_odds_4 rfl ?_
  refine r_invV_i dX10_odds_5 kM10_179 (by decide) (Nat.le_of_ble_eq_true rfl) rfl rfl (Nat.le_of_ble_eq_true rfl) (Nat.le_of_ble_eq_true rfl) (sh_o hS kk29 (by decide)) (i_has (by omega) hS ⟨_, rfl, ?_⟩)
  refine r_if_eq dX10_odds_8 rfl (fun c1 => ?_) (fun c1 => ?_)
  · refine r_iconst dX10_odds_31 (by decide) ?_
    exact r_iret dX10_odds_32 rfl (h.1 c1)
  · refine r_iload_n dX10_odds_11 rfl ?_
    refine r_if_lt dX10_odds_12 rfl (fun c2 => ?_) (fun c2 => ?_)
    · refine r_iconst dX10_odds_31 (by decide) ?_
      exact r_iret dX10_odds_32 rfl ((h.2 c1).1 c2)
    · refine r_iload_n dX10_odds_15 rfl ?_
      refine r_bipush dX10_odds_16 (by decide) ?_
      refine r_icmp_gt dX10_odds_18 rfl (fun c3 => ?_) (fun c3 => ?_)
      · refine r_iconst dX10_odds_31 (by decide) ?_
        exact r_iret dX10_odds_32 rfl (((h.2 c1).2 c2).1 c3)
      · refine r_iload_n dX10_odds_21 rfl ?_
        refine r_if_lt dX10_odds_22 rfl (fun c4 => ?_) (fun c4 => ?_)
        · refine r_iconst dX10_odds_31 (by decide) ?_
          exact r_iret dX10_odds_32 rfl ((((h.2 c1).2 c2).2 c3).1 c4)
        · refine r_iload_n dX10_odds_25 rfl ?_
          refine r_bipush dX10_odds_26 (by decide) ?_
          refine r_icmp_le dX10_odds_28 rfl (fun c5 => ?_) (fun c5 => ?_)
          · refine r_aload_n dX10_odds_33 rfl ?_
            refine r_getS (v := 409) dX10_odds_34 kF10_94 (sh_o hS kk6 (by decide)) (sh_f hS rr6_18 (by decide)) ?_
            refine r_aload_n dX10_odds_37 rfl ?_
            refine r_getS (v := 33) dX10_odds_38 kF10_57 (sh_o hS kk6 (by decide)) (sh_f hS rr6_10 (by decide)) ?_
            refine r_aload_n dX10_odds_41 rfl ?_
            refine r_getS (v := 29) dX10_odds_42 kF10_50 (sh_o hS kk6 (by decide)) (sh_f hS rr6_9 (by decide)) ?_
            refine r_iload_n dX10_odds_45 rfl ?_
            refine r_iload_n dX10_odds_46 rfl ?_
            refine r_iload_n dX10_odds_47 rfl ?_
            refine r_invV_l dX10_odds_48 kM10_356 (by decide) (Nat.le_of_ble_eq_true rfl) rfl rfl (Nat.le_of_ble_eq_true rfl) (Nat.le_of_ble_eq_true rfl) (sh_o hS kk409 (by decide)) (Call.mono (((((h.2 c1).2 c2).2 c3).2 c4).1 c5) (Nat.le_refl _) ?_)
            rintro _ M7 ⟨z6, rfl, s10, h8⟩
            refine ⟨_, rfl, ?_⟩
            refine r_l2i dX10_odds_51 ?_
            exact r_iret dX10_odds_52 rfl h8
          · refine r_iconst dX10_odds_31 (by decide) ?_
            exact r_iret dX10_odds_32 rfl (((((h.2 c1).2 c2).2 c3).2 c4).2 c5)
theorem vx_shares {e : Nat} {M : jM} {Q : Option jV → jM → Prop} {p : Int} {c : Int} (he : 4 ≤ e) (hS : Shp M)
  (h : (((if 0 ≤ p ∧ p < iv M 29 0 then (1 : Int) else (0 : Int)) = (0 : Int)) → (Q (some (vI (-1 : Int))) M)) ∧ (¬ ((if 0 ≤ p ∧ p < iv M 29 0 then (1 : Int) else (0 : Int)) = (0 : Int)) → (((c < (0 : Int)) → (Q (some (vI (-1 : Int))) M)) ∧ (¬ (c < (0 : Int)) → (((c ≤ (999 : Int)) → (Call e mX1_weigh [vR 29, vR 33] M (fun r7 M5 => r7 = none ∧ Shp M5 ∧ (Run (e + 1) mX10_shares 40 [some (vR 6), some (vI p), some (vI c), some (vL (0 : Int)), none, some (vI (0 : Int)), none] [] M5 Q)))) ∧ (¬ (c ≤ (999 : Int)) → (Q (some (vI (-1 : Int))) M))))))) :
  Call (e + 1) mX10_shares [vR 6, vI p, vI c] M Q := by
  show Run (e + 1) mX10_shares 0 [some (vR 6), some (vI p), some (vI c), none, none, none, none] [] M Q
  refine r_aload_n dX10_shares_0 rfl ?_
  refine r_getS (v := 29) dX10_shares_1 kF10_50 (sh_o hS kk6 (by decide)) (sh_f hS rr6_9 (by decide)) ?_
  refine r_iload_n dX10_shares_4 rfl ?_
  refine r_invV_i dX10_shares_5 kM10_179 (by decide) (Nat.le_of_ble_eq_true rfl) rfl rfl (Nat.le_of_ble_eq_true rfl) (Nat.le_of_ble_eq_true rfl) (sh_o hS kk29 (by decide)) (i_has (by omega) hS ⟨_, rfl, ?_⟩)
  refine r_if_eq dX10_shares_8 rfl (fun c1 => ?_) (fun c1 => ?_)
  · refine r_iconst dX10_shares_22 (by decide) ?_
    exact r_iret dX10_shares_23 rfl (h.1 c1)
  · refine r_iload_n dX10_shares_11 rfl ?_
    refine r_if_lt dX10_shares_12 rfl (fun c2 => ?_) (fun c2 => ?_)
    · refine r_iconst dX10_shares_22 (by decide) ?_
      exact r_iret dX10_shares_23 rfl ((h.2 c1).1 c2)
    · refine r_iload_n dX10_shares_15 rfl ?_
      refine r_sipush dX10_shares_16 (by decide) ?_
      refine r_icmp_le dX10_shares_19 rfl (fun c3 => ?_) (fun c3 => ?_)
      · refine r_aload_n dX10_shares_24 rfl ?_
        refine r_getS (v := 29) dX10_shares_25 kF10_50 (sh_o hS kk6 (by decide)) (sh_f hS rr6_9 (by decide)) ?_
        refine r_aload_n dX10_shares_28 rfl ?_
        refine r_getS (v := 33) dX10_shares_29 kF10_57 (sh_o hS kk6 (by decide)) (sh_f hS rr6_10 (by decide)) ?_
        refine r_invV_v dX10_shares_32 kM10_203 (by decide) (Nat.le_of_ble_eq_true rfl) rfl rfl (Nat.le_of_ble_eq_true rfl) (Nat.le_of_ble_eq_true rfl) (sh_o hS kk29 (by decide)) (Call.mono (((h.2 c1).2 c2).1 c3) (Nat.le_refl _) ?_)
        rintro _ M5 ⟨rfl, s8, h6⟩
        refine ⟨rfl, ?_⟩
        refine r_lconst0 dX10_shares_35 ?_
        refine r_lstore_n (ls2 := [some (vR 6), some (vI p), some (vI c), some (vL (0 : Int)), none, none, none]) dX10_shares_36 (Nat.le_of_ble_eq_true rfl) rfl ?_
        refine r_iconst dX10_shares_37 (by decide) ?_
        refine r_istore (ls2 := [some (vR 6), some (vI p), some (vI c), some (vL (0 : Int)), none, some (vI (0 : Int)), none]) dX10_shares_38 (Nat.le_of_ble_eq_true rfl) rfl ?_
        exact h6
      · refine r_iconst dX10_shares_22 (by decide) ?_
        exact r_iret dX10_shares_23 rfl (((h.2 c1).2 c2).2 c3)
theorem vx_shares_40 {e : Nat} {M : jM} {Q : Option jV → jM → Prop} {p : Int} {c : Int} {l3 : Int} {l5 : Int} {l6 : Option jV}  (he : 4 ≤ e) (hS : Shp M)
  (h : (((iv M 29 0) ≤ l5) → (Call e mX7_weight [vR 33, vI p] M (fun r13 M11 => ∃ z10 : Int, r13 = some (vL z10) ∧ Shp M11 ∧ ((((jcmp l3 (0 : Int)) ≠ (0 : Int)) → (l3 ≠ 0 ∧ (Q (some (vI (w32 (jdivL (w64 (c * (fT z10))) l3)))) M11))) ∧ (¬ ((jcmp l3 (0 : Int)) ≠ (0 : Int)) → (Q (some (vI (0 : Int))) M11)))))) ∧ (¬ ((iv M 29 0) ≤ l5) → (Call e mX7_weight [vR 33, vI l5] M (fun r20 M18 => ∃ z17 : Int, r20 = some (vL z17) ∧ Shp M18 ∧ (Run (e + 1) mX10_shares 40 [some (vR 6), some (vI p), some (vI c), some (vL (w64 (l3 + (fT z17)))), none, some (vI (w32 (l5 + (1 : Int)))), l6] [] M18 Q))))) :
  Run (e + 1) mX10_shares 40 [some (vR 6), some (vI p), some (vI c), some (vL l3), none, some (vI l5), l6] [] M Q := by
  refine r_iload dX10_shares_40 rfl ?_
  refine r_aload_n dX10_shares_42 rfl ?_
  refine r_getS (v := 29) dX10_shares_43 kF10_50 (sh_o hS kk6 (by decide)) (sh_f hS rr6_9 (by decide)) ?_
  refine r_get0 dX10_shares_46 kF10_146 (sh_o hS kk29 (by decide)) ?_
  refine r_icmp_ge dX10_shares_49 rfl (fun c9 => ?_) (fun c9 => ?_)
  · refine r_iload_n dX10_shares_74 rfl ?_
    refine r_i2l dX10_shares_75 ?_
    refine r_aload_n dX10_shares_76 rfl ?_
    refine r_getS (v := 33) dX10_shares_77 kF10_57 (sh_o hS kk6 (by decide)) (sh_f hS rr6_10 (by decide)) ?_
    refine r_iload_n dX10_shares_80 rfl ?_
    refine r_invV_l dX10_shares_81 kM10_206 (by decide) (Nat.le_of_ble_eq_true rfl) rfl rfl (Nat.le_of_ble_eq_true rfl) (Nat.le_of_ble_eq_true rfl) (sh_o hS kk33 (by decide)) (Call.mono (h.1 c9) (Nat.le_refl _) ?_)
    rintro _ M11 ⟨z10, rfl, s14, h12⟩
    refine ⟨_, rfl, ?_⟩
    refine r_invS_i dX10_shares_84 (by decide) kXn10_210 kM10_210 (by decide) (Nat.le_of_ble_eq_true rfl) rfl rfl (Nat.le_of_ble_eq_true rfl) (Nat.le_of_ble_eq_true rfl) (c_asTold (by omega) s14 ⟨_, rfl, ?_⟩)
    refine r_i2l dX10_shares_87 ?_
    refine r_lmul dX10_shares_88 ?_
    refine r_lstore (ls2 := [some (vR 6), some (vI p), some (vI c), some (vL l3), none, some (vL (w64 (c * (fT z10)))), none]) dX10_shares_89 (Nat.le_of_ble_eq_true rfl) rfl ?_
    refine r_lload_n dX10_shares_91 rfl ?_
    refine r_lconst0 dX10_shares_92 ?_
    refine r_lcmp dX10_shares_93 ?_
    refine r_if_ne dX10_shares_94 rfl (fun c15 => ?_) (fun c15 => ?_)
    · refine r_lload dX10_shares_101 rfl ?_
      refine r_lload_n dX10_shares_103 rfl ?_
      have ob16 := (h12.1 c15).1
      refine r_ldiv dX10_shares_104 ob16 ?_
      refine r_l2i dX10_shares_105 ?_
      exact r_iret dX10_shares_106 rfl (h12.1 c15).2
    · refine r_iconst dX10_shares_97 (by decide) ?_
      refine r_goto (tgt := 106) dX10_shares_98 rfl ?_
      exact r_iret dX10_shares_106 rfl (h12.2 c15)
  · refine r_lload_n dX10_shares_52 rfl ?_
    refine r_aload_n dX10_shares_53 rfl ?_
    refine r_getS (v := 33) dX10_shares_54 kF10_57 (sh_o hS kk6 (by decide)) (sh_f hS rr6_10 (by decide)) ?_
    refine r_iload dX10_shares_57 rfl ?_
    refine r_invV_l dX10_shares_59 kM10_206 (by decide) (Nat.le_of_ble_eq_true rfl) rfl rfl (Nat.le_of_ble_eq_true rfl) (Nat.le_of_ble_eq_true rfl) (sh_o hS kk33 (by decide)) (Call.mono (h.2 c9) (Nat.le_refl _) ?_)
    rintro _ M18 ⟨z17, rfl, s21, h19⟩
    refine ⟨_, rfl, ?_⟩
    refine r_invS_i dX10_shares_62 (by decide) kXn10_210 kM10_210 (by decide) (Nat.le_of_ble_eq_true rfl) rfl rfl (Nat.le_of_ble_eq_true rfl) (Nat.le_of_ble_eq_true rfl) (c_asTold (by omega) s21 ⟨_, rfl, ?_⟩)
    refine r_i2l dX10_shares_65 ?_
    refine r_ladd dX10_shares_66 ?_
    refine r_lstore_n (ls2 := [some (vR 6), some (vI p), some (vI c), some (vL (w64 (l3 + (fT z17)))), none, some (vI l5), l6]) dX10_shares_67 (Nat.le_of_ble_eq_true rfl) rfl ?_
    refine r_iinc (ls2 := [some (vR 6), some (vI p), some (vI c), some (vL (w64 (l3 + (fT z17)))), none, some (vI (w32 (l5 + (1 : Int)))), l6]) dX10_shares_68 rfl rfl ?_
    refine r_goto (tgt := 40) dX10_shares_71 rfl ?_
    exact h19
theorem vx_most {e : Nat} {M : jM} {Q : Option jV → jM → Prop} {w : Int} (he : 4 ≤ e) (hS : Shp M)
  (h : (((if 0 < iv M 29 0 then (1 : Int) else (0 : Int)) ≠ (0 : Int)) → (Call e mX1_weigh [vR 29, vR 33] M (fun r5 M3 => r5 = none ∧ Shp M3 ∧ ((w = 0 → (Call e mX10_heaviest [vR 6] M3 (fun r11 M9 => ∃ z8 : Int, r11 = some (vI z8) ∧ Shp M9 ∧ (Q (some (vI z8)) M9)))) ∧ (w = 1 → (Call e mX10_lightest [vR 6] M3 (fun r16 M14 => ∃ z13 : Int, r16 = some (vI z13) ∧ Shp M14 ∧ (Q (some (vI z13)) M14)))) ∧ (w = 2 → (Call e mX10_deepest [vR 6] M3 (fun r21 M19 => ∃ z18 : Int, r21 = some (vI z18) ∧ Shp M19 ∧ (Q (some (vI z18)) M19)))) ∧ (w = 3 → (Call e mX10_mostThoughtOf [vR 6] M3 (fun r26 M24 => ∃ z23 : Int, r26 = some (vI z23) ∧ Shp M24 ∧ (Q (some (vI z23)) M24)))) ∧ (w = 4 → (Call e mX1_floating [vR 29, vR 33] M3 (fun r31 M29 => ∃ z28 : Int, r31 = some (vI z28) ∧ Shp M29 ∧ (Q (some (vI z28)) M29)))) ∧ (w = 5 → (Call e mX1_sinking [vR 29, vR 33] M3 (fun r36 M34 => ∃ z33 : Int, r36 = some (vI z33) ∧ Shp M34 ∧ (Q (some (vI z33)) M34)))) ∧ (w = 6 → (Call e mX10_nobodys [vR 6] M3 (fun r41 M39 => ∃ z38 : Int, r41 = some (vI z38) ∧ Shp M39 ∧ (Q (some (vI z38)) M39)))) ∧ (w = 7 → (Call e mX7_thoughtCount [vR 33] M3 (fun r46 M44 => ∃ z43 : Int, r46 = some (vI z43) ∧ Shp M44 ∧ (Q (some (vI z43)) M44)))) ∧ (w = 8 → (Call e mX10_fullMinds [vR 6] M3 (fun r51 M49 => ∃ z48 : Int, r51 = some (vI z48) ∧ Shp M49 ∧ (Q (some (vI z48)) M49)))) ∧ (w = 9 → (Call e mX7_oldestAge [vR 33] M3 (fun r56 M54 => ∃ z53 : Int, r56 = some (vI z53) ∧ Shp M54 ∧ (Q (some (vI z53)) M54)))) ∧ (w = 10 → (Call e mX10_pairs [vR 6] M3 (fun r61 M59 => ∃ z58 : Int, r61 = some (vI z58) ∧ Shp M59 ∧ (Q (some (vI z58)) M59)))) ∧ ((w < 0 ∨ 10 < w) → (Q (some (vI (-1000000 : Int))) M3)))))) ∧ (¬ ((if 0 < iv M 29 0 then (1 : Int) else (0 : Int)) ≠ (0 : Int)) → (Q (some (vI (-1000000 : Int))) M))) :
  Call (e + 1) mX10_most [vR 6, vI w] M Q := by
  show Run (e + 1) mX10_most 0 [some (vR 6), some (vI w)] [] M Q
  refine r_aload_n dX10_most_0 rfl ?_
  refine r_invV_i dX10_most_1 kM10_164 (by decide) (Nat.le_of_ble_eq_true rfl) rfl rfl (Nat.le_of_ble_eq_true rfl) (Nat.le_of_ble_eq_true rfl) (sh_o hS kk6 (by decide)) (c_hasIsland (by omega) hS ⟨_, rfl, ?_⟩)
  refine r_if_ne dX10_most_4 rfl (fun c1 => ?_) (fun c1 => ?_)
  · refine r_aload_n dX10_most_11 rfl ?_
    refine r_getS (v := 29) dX10_most_12 kF10_50 (sh_o hS kk6 (by decide)) (sh_f hS rr6_9 (by decide)) ?_
    refine r_aload_n dX10_most_15 rfl ?_
    refine r_getS (v := 33) dX10_most_16 kF10_57 (sh_o hS kk6 (by decide)) (sh_f hS rr6_10 (by decide)) ?_
    refine r_invV_v dX10_most_19 kM10_203 (by decide) (Nat.le_of_ble_eq_true rfl) rfl rfl (Nat.le_of_ble_eq_true rfl) (Nat.le_of_ble_eq_true rfl) (sh_o hS kk29 (by decide)) (Call.mono (h.1 c1) (Nat.le_refl _) ?_)
    rintro _ M3 ⟨rfl, s6, h4⟩
    refine ⟨rfl, ?_⟩
    refine r_iload_n dX10_most_22 rfl ?_
    by_cases c7 : w < 0 ∨ 10 < w
    · refine r_tab_out (tgt := 155) dX10_most_23 c7 rfl ?_
      refine r_ldc_w dX10_most_155 kK10_261 ?_
      exact r_iret dX10_most_158 rfl (h4.2.2.2.2.2.2.2.2.2.2.2 c7)
    · rcases (show w = 0 ∨ w = 1 ∨ w = 2 ∨ w = 3 ∨ w = 4 ∨ w = 5 ∨ w = 6 ∨ w = 7 ∨ w = 8 ∨ w = 9 ∨ w = 10 by omega) with c7e | c7e | c7e | c7e | c7e | c7e | c7e | c7e | c7e | c7e | c7e
      · refine r_tab_eq (tgt := 80) dX10_most_23 c7e (by decide) rfl rfl ?_
        refine r_aload_n dX10_most_80 rfl ?_
        refine r_invV_i dX10_most_81 kM10_360 (by decide) (Nat.le_of_ble_eq_true rfl) rfl rfl (Nat.le_of_ble_eq_true rfl) (Nat.le_of_ble_eq_true rfl) (sh_o s6 kk6 (by decide)) (Call.mono (h4.1 c7e) (Nat.le_refl _) ?_)
        rintro _ M9 ⟨z8, rfl, s12, h10⟩
        refine ⟨_, rfl, ?_⟩
        exact r_iret dX10_most_84 rfl h10
      · refine r_tab_eq (tgt := 85) dX10_most_23 c7e (by decide) rfl rfl ?_
        refine r_aload_n dX10_most_85 rfl ?_
        refine r_invV_i dX10_most_86 kM10_363 (by decide) (Nat.le_of_ble_eq_true rfl) rfl rfl (Nat.le_of_ble_eq_true rfl) (Nat.le_of_ble_eq_true rfl) (sh_o s6 kk6 (by decide)) (Call.mono (h4.2.1 c7e) (Nat.le_refl _) ?_)
        rintro _ M14 ⟨z13, rfl, s17, h15⟩
        refine ⟨_, rfl, ?_⟩
        exact r_iret dX10_most_89 rfl h15
      · refine r_tab_eq (tgt := 90) dX10_most_23 c7e (by decide) rfl rfl ?_
        refine r_aload_n dX10_most_90 rfl ?_
        refine r_invV_i dX10_most_91 kM10_366 (by decide) (Nat.le_of_ble_eq_true rfl) rfl rfl (Nat.le_of_ble_eq_true rfl) (Nat.le_of_ble_eq_true rfl) (sh_o s6 kk6 (by decide)) (Call.mono (h4.2.2.1 c7e) (Nat.le_refl _) ?_)
        rintro _ M19 ⟨z18, rfl, s22, h20⟩
        refine ⟨_, rfl, ?_⟩
        exact r_iret dX10_most_94 rfl h20
      · refine r_tab_eq (tgt := 95) dX10_most_23 c7e (by decide) rfl rfl ?_
        refine r_aload_n dX10_most_95 rfl ?_
        refine r_invV_i dX10_most_96 kM10_369 (by decide) (Nat.le_of_ble_eq_true rfl) rfl rfl (Nat.le_of_ble_eq_true rfl) (Nat.le_of_ble_eq_true rfl) (sh_o s6 kk6 (by decide)) (Call.mono (h4.2.2.2.1 c7e) (Nat.le_refl _) ?_)
        rintro _ M24 ⟨z23, rfl, s27, h25⟩
        refine ⟨_, rfl, ?_⟩
        exact r_iret dX10_most_99 rfl h25
      · refine r_tab_eq (tgt := 100) dX10_most_23 c7e (by decide) rfl rfl ?_
        refine r_aload_n dX10_most_100 rfl ?_
        refine r_getS (v := 29) dX10_most_101 kF10_50 (sh_o s6 kk6 (by decide)) (sh_f s6 rr6_9 (by decide)) ?_
        refine r_aload_n dX10_most_104 rfl ?_
        refine r_getS (v := 33) dX10_most_105 kF10_57 (sh_o s6 kk6 (by decide)) (sh_f s6 rr6_10 (by decide)) ?_
        refine r_invV_i dX10_most_108 kM10_296 (by decide) (Nat.le_of_ble_eq_true rfl) rfl rfl (Nat.le_of_ble_eq_true rfl) (Nat.le_of_ble_eq_true rfl) (sh_o s6 kk29 (by decide)) (Call.mono (h4.2.2.2.2.1 c7e) (Nat.le_refl _) ?_)
        rintro _ M29 ⟨z28, rfl, s32, h30⟩
        refine ⟨_, rfl, ?_⟩
        exact r_iret dX10_most_111 rfl h30
      · refine r_tab_eq (tgt := 112) dX10_most_23 c7e (by decide) rfl rfl ?_
        refine r_aload_n dX10_most_112 rfl ?_
        refine r_getS (v := 29) dX10_most_113 kF10_50 (sh_o s6 kk6 (by decide)) (sh_f s6 rr6_9 (by decide)) ?_
        refine r_aload_n dX10_most_116 rfl ?_
        refine r_getS (v := 33) dX10_most_117 kF10_57 (sh_o s6 kk6 (by decide)) (sh_f s6 rr6_10 (by decide)) ?_
        refine r_invV_i dX10_most_120 kM10_300 (by decide) (Nat.le_of_ble_eq_true rfl) rfl rfl (Nat.le_of_ble_eq_true rfl) (Nat.le_of_ble_eq_true rfl) (sh_o s6 kk29 (by decide)) (Call.mono (h4.2.2.2.2.2.1 c7e) (Nat.le_refl _) ?_)
        rintro _ M34 ⟨z33, rfl, s37, h35⟩
        refine ⟨_, rfl, ?_⟩
        exact r_iret dX10_most_123 rfl h35
      · refine r_tab_eq (tgt := 124) dX10_most_23 c7e (by decide) rfl rfl ?_
        refine r_aload_n dX10_most_124 rfl ?_
        refine r_invV_i dX10_most_125 kM10_372 (by decide) (Nat.le_of_ble_eq_true rfl) rfl rfl (Nat.le_of_ble_eq_true rfl) (Nat.le_of_ble_eq_true rfl) (sh_o s6 kk6 (by decide)) (Call.mono (h4.2.2.2.2.2.2.1 c7e) (Nat.le_refl _) ?_)
        rintro _ M39 ⟨z38, rfl, s42, h40⟩
        refine ⟨_, rfl, ?_⟩
        exact r_iret dX10_most_128 rfl h40
      · refine r_tab_eq (tgt := 129) dX10_most_23 c7e (by decide) rfl rfl ?_
        refine r_aload_n dX10_most_129 rfl ?_
        refine r_getS (v := 33) dX10_most_130 kF10_57 (sh_o s6 kk6 (by decide)) (sh_f s6 rr6_10 (by decide)) ?_
        refine r_invV_i dX10_most_133 kM10_375 (by decide) (Nat.le_of_ble_eq_true rfl) rfl rfl (Nat.le_of_ble_eq_true rfl) (Nat.le_of_ble_eq_true rfl) (sh_o s6 kk33 (by decide)) (Call.mono (h4.2.2.2.2.2.2.2.1 c7e) (Nat.le_refl _) ?_)
        rintro _ M44 ⟨z43, rfl, s47, h45⟩
        refine ⟨_, rfl, ?_⟩
        exact r_iret dX10_most_136 rfl h45
      · refine r_tab_eq (tgt := 137) dX10_most_23 c7e (by decide) rfl rfl ?_
        refine r_aload_n dX10_most_137 rfl ?_
        refine r_invV_i dX10_most_138 kM10_378 (by decide) (Nat.le_of_ble_eq_true rfl) rfl rfl (Nat.le_of_ble_eq_true rfl) (Nat.le_of_ble_eq_true rfl) (sh_o s6 kk6 (by decide)) (Call.mono (h4.2.2.2.2.2.2.2.2.1 c7e) (Nat.le_refl _) ?_)
        rintro _ M49 ⟨z48, rfl, s52, h50⟩
        refine ⟨_, rfl, ?_⟩
        exact r_iret dX10_most_141 rfl h50
      · refine r_tab_eq (tgt := 142) dX10_most_23 c7e (by decide) rfl rfl ?_
        refine r_aload_n dX10_most_142 rfl ?_
        refine r_getS (v := 33) dX10_most_143 kF10_57 (sh_o s6 kk6 (by decide)) (sh_f s6 rr6_10 (by decide)) ?_
        refine r_invV_i dX10_most_146 kM10_381 (by decide) (Nat.le_of_ble_eq_true rfl) rfl rfl (Nat.le_of_ble_eq_true rfl) (Nat.le_of_ble_eq_true rfl) (sh_o s6 kk33 (by decide)) (Call.mono (h4.2.2.2.2.2.2.2.2.2.1 c7e) (Nat.le_refl _) ?_)
        rintro _ M54 ⟨z53, rfl, s57, h55⟩
        refine ⟨_, rfl, ?_⟩
        exact r_iret dX10_most_149 rfl h55
      · refine r_tab_eq (tgt := 150) dX10_most_23 c7e (by decide) rfl rfl ?_
        refine r_aload_n dX10_most_150 rfl ?_
        refine r_invV_i dX10_most_151 kM10_384 (by decide) (Nat.le_of_ble_eq_true rfl) rfl rfl (Nat.le_of_ble_eq_true rfl) (Nat.le_of_ble_eq_true rfl) (sh_o s6 kk6 (by decide)) (Call.mono (h4.2.2.2.2.2.2.2.2.2.2.1 c7e) (Nat.le_refl _) ?_)
        rintro _ M59 ⟨z58, rfl, s62, h60⟩
        refine ⟨_, rfl, ?_⟩
        exact r_iret dX10_most_154 rfl h60
  · refine r_ldc_w dX10_most_7 kK10_261 ?_
    exact r_iret dX10_most_10 rfl (h.2 c1)
theorem vx_heaviest {e : Nat} {M : jM} {Q : Option jV → jM → Prop}  (he : 4 ≤ e) (hS : Shp M)
  (h : Run (e + 1) mX10_heaviest 4 [some (vR 6), some (vI (0 : Int)), some (vI (1 : Int))] [] M Q) :
  Call (e + 1) mX10_heaviest [vR 6] M Q := by
  show Run (e + 1) mX10_heaviest 0 [some (vR 6), none, none] [] M Q
  refine r_iconst dX10_heaviest_0 (by decide) ?_
  refine r_istore_n (ls2 := [some (vR 6), some (vI (0 : Int)), none]) dX10_heaviest_1 (Nat.le_of_ble_eq_true rfl) rfl ?_
  refine r_iconst dX10_heaviest_2 (by decide) ?_
  refine r_istore_n (ls2 := [some (vR 6), some (vI (0 : Int)), some (vI (1 : Int))]) dX10_heaviest_3 (Nat.le_of_ble_eq_true rfl) rfl ?_
  exact h
theorem vx_heaviest_4 {e : Nat} {M : jM} {Q : Option jV → jM → Prop} {l1 : Int} {l2 : Int}  (he : 4 ≤ e) (hS : Shp M)
  (h : (((iv M 29 0) ≤ l2) → (Q (some (vI l1)) M)) ∧ (¬ ((iv M 29 0) ≤ l2) → (Call e mX7_weight [vR 33, vI l2] M (fun r5 M3 => ∃ z2 : Int, r5 = some (vL z2) ∧ Shp M3 ∧ (Call e mX7_weight [vR 33, vI l1] M3 (fun r10 M8 => ∃ z7 : Int, r10 = some (vL z7) ∧ Shp M8 ∧ (Run (e + 1) mX10_heaviest 4 [some (vR 6), some (vI (if (jcmp z2 z7) ≤ (0 : Int) then l1 else l2)), some (vI (w32 (l2 + (1 : Int))))] [] M8 Q))))))) :
  Run (e + 1) mX10_heaviest 4 [some (vR 6), some (vI l1), some (vI l2)] [] M Q := by
  refine r_iload_n dX10_heaviest_4 rfl ?_
  refine r_aload_n dX10_heaviest_5 rfl ?_
  refine r_getS (v := 29) dX10_heaviest_6 kF10_50 (sh_o hS kk6 (by decide)) (sh_f hS rr6_9 (by decide)) ?_
  refine r_get0 dX10_heaviest_9 kF10_146 (sh_o hS kk29 (by decide)) ?_
  refine r_icmp_ge dX10_heaviest_12 rfl (fun c1 => ?_) (fun c1 => ?_)
  · refine r_iload_n dX10_heaviest_47 rfl ?_
    exact r_iret dX10_heaviest_48 rfl (h.1 c1)
  · refine r_aload_n dX10_heaviest_15 rfl ?_
    refine r_getS (v := 33) dX10_heaviest_16 kF10_57 (sh_o hS kk6 (by decide)) (sh_f hS rr6_10 (by decide)) ?_
    refine r_iload_n dX10_heaviest_19 rfl ?_
    refine r_invV_l dX10_heaviest_20 kM10_206 (by decide) (Nat.le_of_ble_eq_true rfl) rfl rfl (Nat.le_of_ble_eq_true rfl) (Nat.le_of_ble_eq_true rfl) (sh_o hS kk33 (by decide)) (Call.mono (h.2 c1) (Nat.le_refl _) ?_)
    rintro _ M3 ⟨z2, rfl, s6, h4⟩
    refine ⟨_, rfl, ?_⟩
    refine r_aload_n dX10_heaviest_23 rfl ?_
    refine r_getS (v := 33) dX10_heaviest_24 kF10_57 (sh_o s6 kk6 (by decide)) (sh_f s6 rr6_10 (by decide)) ?_
    refine r_iload_n dX10_heaviest_27 rfl ?_
    refine r_invV_l dX10_heaviest_28 kM10_206 (by decide) (Nat.le_of_ble_eq_true rfl) rfl rfl (Nat.le_of_ble_eq_true rfl) (Nat.le_of_ble_eq_true rfl) (sh_o s6 kk33 (by decide)) (Call.mono h4 (Nat.le_refl _) ?_)
    rintro _ M8 ⟨z7, rfl, s11, h9⟩
    refine ⟨_, rfl, ?_⟩
    refine r_lcmp dX10_heaviest_31 ?_
    have K12 : Run (e + 1) mX10_heaviest 40 [some (vR 6), some (vI l1), some (vI l2)] [vI (if (jcmp z2 z7) ≤ (0 : Int) then l1 else l2)] M8 Q := by
      refine r_istore_n (ls2 := [some (vR 6), some (vI (if (jcmp z2 z7) ≤ (0 : Int) then l1 else l2)), some (vI l2)]) dX10_heaviest_40 (Nat.le_of_ble_eq_true rfl) rfl ?_
      refine r_iinc (ls2 := [some (vR 6), some (vI (if (jcmp z2 z7) ≤ (0 : Int) then l1 else l2)), some (vI (w32 (l2 + (1 : Int))))]) dX10_heaviest_41 rfl rfl ?_
      refine r_goto (tgt := 4) dX10_heaviest_44 rfl ?_
      exact h9
    refine r_if_le dX10_heaviest_32 rfl (fun q13 => ?_) (fun q13 => ?_)
    · rw [if_pos q13] at K12
      refine r_iload_n dX10_heaviest_39 rfl ?_
      exact K12
    · rw [if_neg q13] at K12
      refine r_iload_n dX10_heaviest_35 rfl ?_
      refine r_goto (tgt := 40) dX10_heaviest_36 rfl ?_
      exact K12
theorem vx_lightest {e : Nat} {M : jM} {Q : Option jV → jM → Prop}  (he : 4 ≤ e) (hS : Shp M)
  (h : Run (e + 1) mX10_lightest 4 [some (vR 6), some (vI (0 : Int)), some (vI (1 : Int))] [] M Q) :
  Call (e + 1) mX10_lightest [vR 6] M Q := by
  show Run (e + 1) mX10_lightest 0 [some (vR 6), none, none] [] M Q
  refine r_iconst dX10_lightest_0 (by decide) ?_
  refine r_istore_n (ls2 := [some (vR 6), some (vI (0 : Int)), none]) dX10_lightest_1 (Nat.le_of_ble_eq_true rfl) rfl ?_
  refine r_iconst dX10_lightest_2 (by decide) ?_
  refine r_istore_n (ls2 := [some (vR 6), some (vI (0 : Int)), some (vI (1 : Int))]) dX10_lightest_3 (Nat.le_of_ble_eq_true rfl) rfl ?_
  exact h
theorem vx_lightest_4 {e : Nat} {M : jM} {Q : Option jV → jM → Prop} {l1 : Int} {l2 : Int}  (he : 4 ≤ e) (hS : Shp M)
  (h : (((iv M 29 0) ≤ l2) → (Q (some (vI l1)) M)) ∧ (¬ ((iv M 29 0) ≤ l2) → (Call e mX7_weight [vR 33, vI l2] M (fun r5 M3 => ∃ z2 : Int, r5 = some (vL z2) ∧ Shp M3 ∧ (Call e mX7_weight [vR 33, vI l1] M3 (fun r10 M8 => ∃ z7 : Int, r10 = some (vL z7) ∧ Shp M8 ∧ (Run (e + 1) mX10_lightest 4 [some (vR 6), some (vI (if (0 : Int) ≤ (jcmp z2 z7) then l1 else l2)), some (vI (w32 (l2 + (1 : Int))))] [] M8 Q))))))) :
  Run (e + 1) mX10_lightest 4 [some (vR 6), some (vI l1), some (vI l2)] [] M Q := by
  refine r_iload_n dX10_lightest_4 rfl ?_
  refine r_aload_n dX10_lightest_5 rfl ?_
  refine r_getS (v := 29) dX10_lightest_6 kF10_50 (sh_o hS kk6 (by decide)) (sh_f hS rr6_9 (by decide)) ?_
  refine r_get0 dX10_lightest_9 kF10_146 (sh_o hS kk29 (by decide)) ?_
  refine r_icmp_ge dX10_lightest_12 rfl (fun c1 => ?_) (fun c1 => ?_)
  · refine r_iload_n dX10_lightest_47 rfl ?_
    exact r_iret dX10_lightest_48 rfl (h.1 c1)
  · refine r_aload_n dX10_lightest_15 rfl ?_
    refine r_getS (v := 33) dX10_lightest_16 kF10_57 (sh_o hS kk6 (by decide)) (sh_f hS rr6_10 (by decide)) ?_
    refine r_iload_n dX10_lightest_19 rfl ?_
    refine r_invV_l dX10_lightest_20 kM10_206 (by decide) (Nat.le_of_ble_eq_true rfl) rfl rfl (Nat.le_of_ble_eq_true rfl) (Nat.le_of_ble_eq_true rfl) (sh_o hS kk33 (by decide)) (Call.mono (h.2 c1) (Nat.le_refl _) ?_)
    rintro _ M3 ⟨z2, rfl, s6, h4⟩
    refine ⟨_, rfl, ?_⟩
    refine r_aload_n dX10_lightest_23 rfl ?_
    refine r_getS (v := 33) dX10_lightest_24 kF10_57 (sh_o s6 kk6 (by decide)) (sh_f s6 rr6_10 (by decide)) ?_
    refine r_iload_n dX10_lightest_27 rfl ?_
    refine r_invV_l dX10_lightest_28 kM10_206 (by decide) (Nat.le_of_ble_eq_true rfl) rfl rfl (Nat.le_of_ble_eq_true rfl) (Nat.le_of_ble_eq_true rfl) (sh_o s6 kk33 (by decide)) (Call.mono h4 (Nat.le_refl _) ?_)
    rintro _ M8 ⟨z7, rfl, s11, h9⟩
    refine ⟨_, rfl, ?_⟩
    refine r_lcmp dX10_lightest_31 ?_
    have K12 : Run (e + 1) mX10_lightest 40 [some (vR 6), some (vI l1), some (vI l2)] [vI (if (0 : Int) ≤ (jcmp z2 z7) then l1 else l2)] M8 Q := by
      refine r_istore_n (ls2 := [some (vR 6), some (vI (if (0 : Int) ≤ (jcmp z2 z7) then l1 else l2)), some (vI l2)]) dX10_lightest_40 (Nat.le_of_ble_eq_true rfl) rfl ?_
      refine r_iinc (ls2 := [some (vR 6), some (vI (if (0 : Int) ≤ (jcmp z2 z7) then l1 else l2)), some (vI (w32 (l2 + (1 : Int))))]) dX10_lightest_41 rfl rfl ?_
      refine r_goto (tgt := 4) dX10_lightest_44 rfl ?_
      exact h9
    refine r_if_ge dX10_lightest_32 rfl (fun q13 => ?_) (fun q13 => ?_)
    · rw [if_pos q13] at K12
      refine r_iload_n dX10_lightest_39 rfl ?_
      exact K12
    · rw [if_neg q13] at K12
      refine r_iload_n dX10_lightest_35 rfl ?_
      refine r_goto (tgt := 40) dX10_lightest_36 rfl ?_
      exact K12
theorem vx_deepest {e : Nat} {M : jM} {Q : Option jV → jM → Prop}  (he : 4 ≤ e) (hS : Shp M)
  (h : Run (e + 1) mX10_deepest 4 [some (vR 6), some (vI (0 : Int)), some (vI (1 : Int))] [] M Q) :
  Call (e + 1) mX10_deepest [vR 6] M Q := by
  show Run (e + 1) mX10_deepest 0 [some (vR 6), none, none] [] M Q
  refine r_iconst dX10_deepest_0 (by decide) ?_
  refine r_istore_n (ls2 := [some (vR 6), some (vI (0 : Int)), none]) dX10_deepest_1 (Nat.le_of_ble_eq_true rfl) rfl ?_
  refine r_iconst dX10_deepest_2 (by decide) ?_
  refine r_istore_n (ls2 := [some (vR 6), some (vI (0 : Int)), some (vI (1 : Int))]) dX10_deepest_3 (Nat.le_of_ble_eq_true rfl) rfl ?_
  exact h
theorem vx_deepest_4 {e : Nat} {M : jM} {Q : Option jV → jM → Prop} {l1 : Int} {l2 : Int}  (he : 4 ≤ e) (hS : Shp M)
  (h : (((iv M 29 0) ≤ l2) → (Q (some (vI l1)) M)) ∧ (¬ ((iv M 29 0) ≤ l2) → (Run (e + 1) mX10_deepest 4 [some (vR 6), some (vI (if (atv M 8 30 l2) ≤ (atv M 8 30 l1) then l1 else l2)), some (vI (w32 (l2 + (1 : Int))))] [] M Q))) :
  Run (e + 1) mX10_deepest 4 [some (vR 6), some (vI l1), some (vI l2)] [] M Q := by
  refine r_iload_n dX10_deepest_4 rfl ?_
  refine r_aload_n dX10_deepest_5 rfl ?_
  refine r_getS (v := 29) dX10_deepest_6 kF10_50 (sh_o hS kk6 (by decide)) (sh_f hS rr6_9 (by decide)) ?_
  refine r_get0 dX10_deepest_9 kF10_146 (sh_o hS kk29 (by decide)) ?_
  refine r_icmp_ge dX10_deepest_12 rfl (fun c1 => ?_) (fun c1 => ?_)
  · refine r_iload_n dX10_deepest_52 rfl ?_
    exact r_iret dX10_deepest_53 rfl (h.1 c1)
  · refine r_aload_n dX10_deepest_15 rfl ?_
    refine r_getS (v := 29) dX10_deepest_16 kF10_50 (sh_o hS kk6 (by decide)) (sh_f hS rr6_9 (by decide)) ?_
    refine r_getS (v := 30) dX10_deepest_19 kF10_197 (sh_o hS kk29 (by decide)) (sh_f hS rr29_3 (by decide)) ?_
    refine r_iload_n dX10_deepest_22 rfl ?_
    refine r_invS_i dX10_deepest_23 (by decide) kXn10_193 kM10_193 (by decide) (Nat.le_of_ble_eq_true rfl) rfl rfl (Nat.le_of_ble_eq_true rfl) (Nat.le_of_ble_eq_true rfl) (c_at (by omega) (sh_r hS kk30 (by decide)) ⟨_, rfl, ?_⟩)
    refine r_aload_n dX10_deepest_26 rfl ?_
    refine r_getS (v := 29) dX10_deepest_27 kF10_50 (sh_o hS kk6 (by decide)) (sh_f hS rr6_9 (by decide)) ?_
    refine r_getS (v := 30) dX10_deepest_30 kF10_197 (sh_o hS kk29 (by decide)) (sh_f hS rr29_3 (by decide)) ?_
    refine r_iload_n dX10_deepest_33 rfl ?_
    refine r_invS_i dX10_deepest_34 (by decide) kXn10_193 kM10_193 (by decide) (Nat.le_of_ble_eq_true rfl) rfl rfl (Nat.le_of_ble_eq_true rfl) (Nat.le_of_ble_eq_true rfl) (c_at (by omega) (sh_r hS kk30 (by decide)) ⟨_, rfl, ?_⟩)
    have K2 : Run (e + 1) mX10_deepest 45 [some (vR 6), some (vI l1), some (vI l2)] [vI (if (atv M 8 30 l2) ≤ (atv M 8 30 l1) then l1 else l2)] M Q := by
      refine r_istore_n (ls2 := [some (vR 6), some (vI (if (atv M 8 30 l2) ≤ (atv M 8 30 l1) then l1 else l2)), some (vI l2)]) dX10_deepest_45 (Nat.le_of_ble_eq_true rfl) rfl ?_
      refine r_iinc (ls2 := [some (vR 6), some (vI (if (atv M 8 30 l2) ≤ (atv M 8 30 l1) then l1 else l2)), some (vI (w32 (l2 + (1 : Int))))]) dX10_deepest_46 rfl rfl ?_
      refine r_goto (tgt := 4) dX10_deepest_49 rfl ?_
      exact (h.2 c1)
    refine r_icmp_le dX10_deepest_37 rfl (fun q3 => ?_) (fun q3 => ?_)
    · rw [if_pos q3] at K2
      refine r_iload_n dX10_deepest_44 rfl ?_
      exact K2
    · rw [if_neg q3] at K2
      refine r_iload_n dX10_deepest_40 rfl ?_
      refine r_goto (tgt := 45) dX10_deepest_41 rfl ?_
      exact K2
theorem vx_mostThoughtOf {e : Nat} {M : jM} {Q : Option jV → jM → Prop}  (he : 4 ≤ e) (hS : Shp M)
  (h : Run (e + 1) mX10_mostThoughtOf 4 [some (vR 6), some (vI (0 : Int)), some (vI (1 : Int))] [] M Q) :
  Call (e + 1) mX10_mostThoughtOf [vR 6] M Q := by
  show Run (e + 1) mX10_mostThoughtOf 0 [some (vR 6), none, none] [] M Q
  refine r_iconst dX10_mostThoughtOf_0 (by decide) ?_
  refine r_istore_n (ls2 := [some (vR 6), some (vI (0 : Int)), none]) dX10_mostThoughtOf_1 (Nat.le_of_ble_eq_true rfl) rfl ?_
  refine r_iconst dX10_mostThoughtOf_2 (by decide) ?_
  refine r_istore_n (ls2 := [some (vR 6), some (vI (0 : Int)), some (vI (1 : Int))]) dX10_mostThoughtOf_3 (Nat.le_of_ble_eq_true rfl) rfl ?_
  exact h
theorem vx_mostThoughtOf_4 {e : Nat} {M : jM} {Q : Option jV → jM → Prop} {l1 : Int} {l2 : Int}  (he : 4 ≤ e) (hS : Shp M)
  (h : (((iv M 29 0) ≤ l2) → (Q (some (vI l1)) M)) ∧ (¬ ((iv M 29 0) ≤ l2) → (Call e mX7_thoughtsOf [vR 33, vI l2] M (fun r5 M3 => ∃ z2 : Int, r5 = some (vI z2) ∧ Shp M3 ∧ (Call e mX7_thoughtsOf [vR 33, vI l1] M3 (fun r10 M8 => ∃ z7 : Int, r10 = some (vI z7) ∧ Shp M8 ∧ (Run (e + 1) mX10_mostThoughtOf 4 [some (vR 6), some (vI (if z2 ≤ z7 then l1 else l2)), some (vI (w32 (l2 + (1 : Int))))] [] M8 Q))))))) :
  Run (e + 1) mX10_mostThoughtOf 4 [some (vR 6), some (vI l1), some (vI l2)] [] M Q := by
  refine r_iload_n dX10_mostThoughtOf_4 rfl ?_
  refine r_aload_n dX10_mostThoughtOf_5 rfl ?_
  refine r_getS (v := 29) dX10_mostThoughtOf_6 kF10_50 (sh_o hS kk6 (by decide)) (sh_f hS rr6_9 (by decide)) ?_
  refine r_get0 dX10_mostThoughtOf_9 kF10_146 (sh_o hS kk29 (by decide)) ?_
  refine r_icmp_ge dX10_mostThoughtOf_12 rfl (fun c1 => ?_) (fun c1 => ?_)
  · refine r_iload_n dX10_mostThoughtOf_46 rfl ?_
    exact r_iret dX10_mostThoughtOf_47 rfl (h.1 c1)
  · refine r_aload_n dX10_mostThoughtOf_15 rfl ?_
    refine r_getS (v := 33) dX10_mostThoughtOf_16 kF10_57 (sh_o hS kk6 (by decide)) (sh_f hS rr6_10 (by decide)) ?_
    refine r_iload_n dX10_mostThoughtOf_19 rfl ?_
    refine r_invV_i dX10_mostThoughtOf_20 kM10_387 (by decide) (Nat.le_of_ble_eq_true rfl) rfl rfl (Nat.le_of_ble_eq_true rfl) (Nat.le_of_ble_eq_true rfl) (sh_o hS kk33 (by decide)) (Call.mono (h.2 c1) (Nat.le_refl _) ?_)
    rintro _ M3 ⟨z2, rfl, s6, h4⟩
    refine ⟨_, rfl, ?_⟩
    refine r_aload_n dX10_mostThoughtOf_23 rfl ?_
    refine r_getS (v := 33) dX10_mostThoughtOf_24 kF10_57 (sh_o s6 kk6 (by decide)) (sh_f s6 rr6_10 (by decide)) ?_
    refine r_iload_n dX10_mostThoughtOf_27 rfl ?_
    refine r_invV_i dX10_mostThoughtOf_28 kM10_387 (by decide) (Nat.le_of_ble_eq_true rfl) rfl rfl (Nat.le_of_ble_eq_true rfl) (Nat.le_of_ble_eq_true rfl) (sh_o s6 kk33 (by decide)) (Call.mono h4 (Nat.le_refl _) ?_)
    rintro _ M8 ⟨z7, rfl, s11, h9⟩
    refine ⟨_, rfl, ?_⟩
    have K12 : Run (e + 1) mX10_mostThoughtOf 39 [some (vR 6), some (vI l1), some (vI l2)] [vI (if z2 ≤ z7 then l1 else l2)] M8 Q := by
      refine r_istore_n (ls2 := [some (vR 6), some (vI (if z2 ≤ z7 then l1 else l2)), some (vI l2)]) dX10_mostThoughtOf_39 (Nat.le_of_ble_eq_true rfl) rfl ?_
      refine r_iinc (ls2 := [some (vR 6), some (vI (if z2 ≤ z7 then l1 else l2)), some (vI (w32 (l2 + (1 : Int))))]) dX10_mostThoughtOf_40 rfl rfl ?_
      refine r_goto (tgt := 4) dX10_mostThoughtOf_43 rfl ?_
      exact h9
    refine r_icmp_le dX10_mostThoughtOf_31 rfl (fun q13 => ?_) (fun q13 => ?_)
    · rw [if_pos q13] at K12
      refine r_iload_n dX10_mostThoughtOf_38 rfl ?_
      exact K12
    · rw [if_neg q13] at K12
      refine r_iload_n dX10_mostThoughtOf_34 rfl ?_
      refine r_goto (tgt := 39) dX10_mostThoughtOf_35 rfl ?_
      exact K12
theorem vx_nobodys {e : Nat} {M : jM} {Q : Option jV → jM → Prop}  (he : 4 ≤ e) (hS : Shp M)
  (h : Run (e + 1) mX10_nobodys 4 [some (vR 6), some (vI (0 : Int)), some (vI (0 : Int))] [] M Q) :
  Call (e + 1) mX10_nobodys [vR 6] M Q := by
  show Run (e + 1) mX10_nobodys 0 [some (vR 6), none, none] [] M Q
  refine r_iconst dX10_nobodys_0 (by decide) ?_
  refine r_istore_n (ls2 := [some (vR 6), some (vI (0 : Int)), none]) dX10_nobodys_1 (Nat.le_of_ble_eq_true rfl) rfl ?_
  refine r_iconst dX10_nobodys_2 (by decide) ?_
  refine r_istore_n (ls2 := [some (vR 6), some (vI (0 : Int)), some (vI (0 : Int))]) dX10_nobodys_3 (Nat.le_of_ble_eq_true rfl) rfl ?_
  exact h
theorem vx_nobodys_4 {e : Nat} {M : jM} {Q : Option jV → jM → Prop} {l1 : Int} {l2 : Int}  (he : 4 ≤ e) (hS : Shp M)
  (h : (((iv M 29 0) ≤ l2) → (Q (some (vI l1)) M)) ∧ (¬ ((iv M 29 0) ≤ l2) → (Call e mX7_thoughtsOf [vR 33, vI l2] M (fun r5 M3 => ∃ z2 : Int, r5 = some (vI z2) ∧ Shp M3 ∧ (Run (e + 1) mX10_nobodys 4 [some (vR 6), some (vI (jor l1 (if z2 ≠ (0 : Int) then (0 : Int) else jshl (1 : Int) l2))), some (vI (w32 (l2 + (1 : Int))))] [] M3 Q))))) :
  Run (e + 1) mX10_nobodys 4 [some (vR 6), some (vI l1), some (vI l2)] [] M Q := by
  refine r_iload_n dX10_nobodys_4 rfl ?_
  refine r_aload_n dX10_nobodys_5 rfl ?_
  refine r_getS (v := 29) dX10_nobodys_6 kF10_50 (sh_o hS kk6 (by decide)) (sh_f hS rr6_9 (by decide)) ?_
  refine r_get0 dX10_nobodys_9 kF10_146 (sh_o hS kk29 (by decide)) ?_
  refine r_icmp_ge dX10_nobodys_12 rfl (fun c1 => ?_) (fun c1 => ?_)
  · refine r_iload_n dX10_nobodys_42 rfl ?_
    exact r_iret dX10_nobodys_43 rfl (h.1 c1)
  · refine r_iload_n dX10_nobodys_15 rfl ?_
    refine r_aload_n dX10_nobodys_16 rfl ?_
    refine r_getS (v := 33) dX10_nobodys_17 kF10_57 (sh_o hS kk6 (by decide)) (sh_f hS rr6_10 (by decide)) ?_
    refine r_iload_n dX10_nobodys_20 rfl ?_
    refine r_invV_i dX10_nobodys_21 kM10_387 (by decide) (Nat.le_of_ble_eq_true rfl) rfl rfl (Nat.le_of_ble_eq_true rfl) (Nat.le_of_ble_eq_true rfl) (sh_o hS kk33 (by decide)) (Call.mono (h.2 c1) (Nat.le_refl _) ?_)
    rintro _ M3 ⟨z2, rfl, s6, h4⟩
    refine ⟨_, rfl, ?_⟩
    have K7 : Run (e + 1) mX10_nobodys 34 [some (vR 6), some (vI l1), some (vI l2)] [vI (if z2 ≠ (0 : Int) then (0 : Int) else jshl (1 : Int) l2), vI l1] M3 Q := by
      refine r_ior dX10_nobodys_34 ?_
      refine r_istore_n (ls2 := [some (vR 6), some (vI (jor l1 (if z2 ≠ (0 : Int) then (0 : Int) else jshl (1 : Int) l2))), some (vI l2)]) dX10_nobodys_35 (Nat.le_of_ble_eq_true rfl) rfl ?_
      refine r_iinc (ls2 := [some (vR 6), some (vI (jor l1 (if z2 ≠ (0 : Int) then (0 : Int) else jshl (1 : Int) l2))), some (vI (w32 (l2 + (1 : Int))))]) dX10_nobodys_36 rfl rfl ?_
      refine r_goto (tgt := 4) dX10_nobodys_39 rfl ?_
      exact h4
    refine r_if_ne dX10_nobodys_24 rfl (fun q8 => ?_) (fun q8 => ?_)
    · rw [if_pos q8] at K7
      refine r_iconst dX10_nobodys_33 (by decide) ?_
      exact K7
    · rw [if_neg q8] at K7
      refine r_iconst dX10_nobodys_27 (by decide) ?_
      refine r_iload_n dX10_nobodys_28 rfl ?_
      refine r_ishl dX10_nobodys_29 ?_
      refine r_goto (tgt := 34) dX10_nobodys_30 rfl ?_
      exact K7
theorem vx_fullMinds {e : Nat} {M : jM} {Q : Option jV → jM → Prop}  (he : 4 ≤ e) (hS : Shp M)
  (h : Run (e + 1) mX10_fullMinds 4 [some (vR 6), some (vI (0 : Int)), some (vI (0 : Int))] [] M Q) :
  Call (e + 1) mX10_fullMinds [vR 6] M Q := by
  show Run (e + 1) mX10_fullMinds 0 [some (vR 6), none, none] [] M Q
  refine r_iconst dX10_fullMinds_0 (by decide) ?_
  refine r_istore_n (ls2 := [some (vR 6), some (vI (0 : Int)), none]) dX10_fullMinds_1 (Nat.le_of_ble_eq_true rfl) rfl ?_
  refine r_iconst dX10_fullMinds_2 (by decide) ?_
  refine r_istore_n (ls2 := [some (vR 6), some (vI (0 : Int)), some (vI (0 : Int))]) dX10_fullMinds_3 (Nat.le_of_ble_eq_true rfl) rfl ?_
  exact h
theorem vx_fullMinds_4 {e : Nat} {M : jM} {Q : Option jV → jM → Prop} {l1 : Int} {l2 : Int}  (he : 4 ≤ e) (hS : Shp M)
  (h : (((iv M 29 0) ≤ l2) → (Q (some (vI l1)) M)) ∧ (¬ ((iv M 29 0) ≤ l2) → (Call e mX7_emptyPlace [vR 33, vI l2] M (fun r5 M3 => ∃ z2 : Int, r5 = some (vI z2) ∧ Shp M3 ∧ (Run (e + 1) mX10_fullMinds 4 [some (vR 6), some (vI (jor l1 (if z2 ≠ (-1 : Int) then (0 : Int) else jshl (1 : Int) l2))), some (vI (w32 (l2 + (1 : Int))))] [] M3 Q))))) :
  Run (e + 1) mX10_fullMinds 4 [some (vR 6), some (vI l1), some (vI l2)] [] M Q := by
  refine r_iload_n dX10_fullMinds_4 rfl ?_
  refine r_aload_n dX10_fullMinds_5 rfl ?_
  refine r_getS (v := 29) dX10_fullMinds_6 kF10_50 (sh_o hS kk6 (by decide)) (sh_f hS rr6_9 (by decide)) ?_
  refine r_get0 dX10_fullMinds_9 kF10_146 (sh_o hS kk29 (by decide)) ?_
  refine r_icmp_ge dX10_fullMinds_12 rfl (fun c1 => ?_) (fun c1 => ?_)
  · refine r_iload_n dX10_fullMinds_43 rfl ?_
    exact r_iret dX10_fullMinds_44 rfl (h.1 c1)
  · refine r_iload_n dX10_fullMinds_15 rfl ?_
    refine r_aload_n dX10_fullMinds_16 rfl ?_
    refine r_getS (v := 33) dX10_fullMinds_17 kF10_57 (sh_o hS kk6 (by decide)) (sh_f hS rr6_10 (by decide)) ?_
    refine r_iload_n dX10_fullMinds_20 rfl ?_
    refine r_invV_i dX10_fullMinds_21 kM10_271 (by decide) (Nat.le_of_ble_eq_true rfl) rfl rfl (Nat.le_of_ble_eq_true rfl) (Nat.le_of_ble_eq_true rfl) (sh_o hS kk33 (by decide)) (Call.mono (h.2 c1) (Nat.le_refl _) ?_)
    rintro _ M3 ⟨z2, rfl, s6, h4⟩
    refine ⟨_, rfl, ?_⟩
    refine r_iconst dX10_fullMinds_24 (by decide) ?_
    have K7 : Run (e + 1) mX10_fullMinds 35 [some (vR 6), some (vI l1), some (vI l2)] [vI (if z2 ≠ (-1 : Int) then (0 : Int) else jshl (1 : Int) l2), vI l1] M3 Q := by
      refine r_ior dX10_fullMinds_35 ?_
      refine r_istore_n (ls2 := [some (vR 6), some (vI (jor l1 (if z2 ≠ (-1 : Int) then (0 : Int) else jshl (1 : Int) l2))), some (vI l2)]) dX10_fullMinds_36 (Nat.le_of_ble_eq_true rfl) rfl ?_
      refine r_iinc (ls2 := [some (vR 6), some (vI (jor l1 (if z2 ≠ (-1 : Int) then (0 : Int) else jshl (1 : Int) l2))), some (vI (w32 (l2 + (1 : Int))))]) dX10_fullMinds_37 rfl rfl ?_
      refine r_goto (tgt := 4) dX10_fullMinds_40 rfl ?_
      exact h4
    refine r_icmp_ne dX10_fullMinds_25 rfl (fun q8 => ?_) (fun q8 => ?_)
    · rw [if_pos q8] at K7
      refine r_iconst dX10_fullMinds_34 (by decide) ?_
      exact K7
    · rw [if_neg q8] at K7
      refine r_iconst dX10_fullMinds_28 (by decide) ?_
      refine r_iload_n dX10_fullMinds_29 rfl ?_
      refine r_ishl dX10_fullMinds_30 ?_
      refine r_goto (tgt := 35) dX10_fullMinds_31 rfl ?_
      exact K7
theorem vx_pairs {e : Nat} {M : jM} {Q : Option jV → jM → Prop}  (he : 4 ≤ e) (hS : Shp M)
  (h : Run (e + 1) mX10_pairs 4 [some (vR 6), some (vI (0 : Int)), some (vI (0 : Int)), none] [] M Q) :
  Call (e + 1) mX10_pairs [vR 6] M Q := by
  show Run (e + 1) mX10_pairs 0 [some (vR 6), none, none, none] [] M Q
  refine r_iconst dX10_pairs_0 (by decide) ?_
  refine r_istore_n (ls2 := [some (vR 6), some (vI (0 : Int)), none, none]) dX10_pairs_1 (Nat.le_of_ble_eq_true rfl) rfl ?_
  refine r_iconst dX10_pairs_2 (by decide) ?_
  refine r_istore_n (ls2 := [some (vR 6), some (vI (0 : Int)), some (vI (0 : Int)), none]) dX10_pairs_3 (Nat.le_of_ble_eq_true rfl) rfl ?_
  exact h
theorem vx_pairs_4 {e : Nat} {M : jM} {Q : Option jV → jM → Prop} {l1 : Int} {l2 : Int} {l3 : Option jV}  (he : 4 ≤ e) (hS : Shp M)
  (h : (((iv M 29 0) ≤ l2) → (Q (some (vI l1)) M)) ∧ (¬ ((iv M 29 0) ≤ l2) → (Run (e + 1) mX10_pairs 19 [some (vR 6), some (vI l1), some (vI l2), some (vI (w32 (l2 + (1 : Int))))] [] M Q))) :
  Run (e + 1) mX10_pairs 4 [some (vR 6), some (vI l1), some (vI l2), l3] [] M Q := by
  refine r_iload_n dX10_pairs_4 rfl ?_
  refine r_aload_n dX10_pairs_5 rfl ?_
  refine r_getS (v := 29) dX10_pairs_6 kF10_50 (sh_o hS kk6 (by decide)) (sh_f hS rr6_9 (by decide)) ?_
  refine r_get0 dX10_pairs_9 kF10_146 (sh_o hS kk29 (by decide)) ?_
  refine r_icmp_ge dX10_pairs_12 rfl (fun c1 => ?_) (fun c1 => ?_)
  · refine r_iload_n dX10_pairs_74 rfl ?_
    exact r_iret dX10_pairs_75 rfl (h.1 c1)
  · refine r_iload_n dX10_pairs_15 rfl ?_
    refine r_iconst dX10_pairs_16 (by decide) ?_
    refine r_iadd dX10_pairs_17 ?_
    refine r_istore_n (ls2 := [some (vR 6), some (vI l1), some (vI l2), some (vI (w32 (l2 + (1 : Int))))]) dX10_pairs_18 (Nat.le_of_ble_eq_true rfl) rfl ?_
    exact (h.2 c1)
theorem vx_pairs_19 {e : Nat} {M : jM} {Q : Option jV → jM → Prop} {l1 : Int} {l2 : Int} {l3 : Int}  (he : 4 ≤ e) (hS : Shp M)
  (h : (((iv M 29 0) ≤ l3) → (Run (e + 1) mX10_pairs 4 [some (vR 6), some (vI l1), some (vI (w32 (l2 + (1 : Int)))), some (vI l3)] [] M Q)) ∧ (¬ ((iv M 29 0) ≤ l3) → (Call e mX7_thinksOf [vR 33, vI l2, vI l3] M (fun r6 M4 => ∃ z3 : Int, r6 = some (vI z3) ∧ Shp M4 ∧ (((z3 = (0 : Int)) → (Run (e + 1) mX10_pairs 19 [some (vR 6), some (vI (w32 (l1 + (0 : Int)))), some (vI l2), some (vI (w32 (l3 + (1 : Int))))] [] M4 Q)) ∧ (¬ (z3 = (0 : Int)) → (Call e mX7_thinksOf [vR 33, vI l3, vI l2] M4 (fun r12 M10 => ∃ z9 : Int, r12 = some (vI z9) ∧ Shp M10 ∧ (Run (e + 1) mX10_pairs 19 [some (vR 6), some (vI (w32 (l1 + (if z9 = (0 : Int) then (0 : Int) else (1 : Int))))), some (vI l2), some (vI (w32 (l3 + (1 : Int))))] [] M10 Q))))))))) :
  Run (e + 1) mX10_pairs 19 [some (vR 6), some (vI l1), some (vI l2), some (vI l3)] [] M Q := by
  refine r_iload_n dX10_pairs_19 rfl ?_
  refine r_aload_n dX10_pairs_20 rfl ?_
  refine r_getS (v := 29) dX10_pairs_21 kF10_50 (sh_o hS kk6 (by decide)) (sh_f hS rr6_9 (by decide)) ?_
  refine r_get0 dX10_pairs_24 kF10_146 (sh_o hS kk29 (by decide)) ?_
  refine r_icmp_ge dX10_pairs_27 rfl (fun c2 => ?_) (fun c2 => ?_)
  · refine r_iinc (ls2 := [some (vR 6), some (vI l1), some (vI (w32 (l2 + (1 : Int)))), some (vI l3)]) dX10_pairs_68 rfl rfl ?_
    refine r_goto (tgt := 4) dX10_pairs_71 rfl ?_
    exact (h.1 c2)
  · refine r_iload_n dX10_pairs_30 rfl ?_
    refine r_aload_n dX10_pairs_31 rfl ?_
    refine r_getS (v := 33) dX10_pairs_32 kF10_57 (sh_o hS kk6 (by decide)) (sh_f hS rr6_10 (by decide)) ?_
    refine r_iload_n dX10_pairs_35 rfl ?_
    refine r_iload_n dX10_pairs_36 rfl ?_
    refine r_invV_i dX10_pairs_37 kM10_390 (by decide) (Nat.le_of_ble_eq_true rfl) rfl rfl (Nat.le_of_ble_eq_true rfl) (Nat.le_of_ble_eq_true rfl) (sh_o hS kk33 (by decide)) (Call.mono (h.2 c2) (Nat.le_refl _) ?_)
    rintro _ M4 ⟨z3, rfl, s7, h5⟩
    refine ⟨_, rfl, ?_⟩
    refine r_if_eq dX10_pairs_40 rfl (fun c8 => ?_) (fun c8 => ?_)
    · refine r_iconst dX10_pairs_59 (by decide) ?_
      refine r_iadd dX10_pairs_60 ?_
      refine r_istore_n (ls2 := [some (vR 6), some (vI (w32 (l1 + (0 : Int)))), some (vI l2), some (vI l3)]) dX10_pairs_61 (Nat.le_of_ble_eq_true rfl) rfl ?_
      refine r_iinc (ls2 := [some (vR 6), some (vI (w32 (l1 + (0 : Int)))), some (vI l2), some (vI (w32 (l3 + (1 : Int))))]) dX10_pairs_62 rfl rfl ?_
      refine r_goto (tgt := 19) dX10_pairs_65 rfl ?_
      exact (h5.1 c8)
    · refine r_aload_n dX10_pairs_43 rfl ?_
      refine r_getS (v := 33) dX10_pairs_44 kF10_57 (sh_o s7 kk6 (by decide)) (sh_f s7 rr6_10 (by decide)) ?_
      refine r_iload_n dX10_pairs_47 rfl ?_
      refine r_iload_n dX10_pairs_48 rfl ?_
      refine r_invV_i dX10_pairs_49 kM10_390 (by decide) (Nat.le_of_ble_eq_true rfl) rfl rfl (Nat.le_of_ble_eq_true rfl) (Nat.le_of_ble_eq_true rfl) (sh_o s7 kk33 (by decide)) (Call.mono (h5.2 c8) (Nat.le_refl _) ?_)
      rintro _ M10 ⟨z9, rfl, s13, h11⟩
      refine ⟨_, rfl, ?_⟩
      have K14 : Run (e + 1) mX10_pairs 60 [some (vR 6), some (vI l1), some (vI l2), some (vI l3)] [vI (if z9 = (0 : Int) then (0 : Int) else (1 : Int)), vI l1] M10 Q := by
        refine r_iadd dX10_pairs_60 ?_
        refine r_istore_n (ls2 := [some (vR 6), some (vI (w32 (l1 + (if z9 = (0 : Int) then (0 : Int) else (1 : Int))))), some (vI l2), some (vI l3)]) dX10_pairs_61 (Nat.le_of_ble_eq_true rfl) rfl ?_
        refine r_iinc (ls2 := [some (vR 6), some (vI (w32 (l1 + (if z9 = (0 : Int) then (0 : Int) else (1 : Int))))), some (vI l2), some (vI (w32 (l3 + (1 : Int))))]) dX10_pairs_62 rfl rfl ?_
        refine r_goto (tgt := 19) dX10_pairs_65 rfl ?_
        exact h11
      refine r_if_eq dX10_pairs_52 rfl (fun q15 => ?_) (fun q15 => ?_)
      · rw [if_pos q15] at K14
        refine r_iconst dX10_pairs_59 (by decide) ?_
        exact K14
      · rw [if_neg q15] at K14
        refine r_iconst dX10_pairs_55 (by decide) ?_
        refine r_goto (tgt := 60) dX10_pairs_56 rfl ?_
        exact K14
theorem vx_seen {e : Nat} {M : jM} {Q : Option jV → jM → Prop} {p : Int} {n : Int} {v : Int} {mo : Int} (he : 4 ≤ e) (hS : Shp M)
  (h : (((if 0 ≤ p ∧ p < iv M 29 0 then (1 : Int) else (0 : Int)) = (0 : Int)) → (Q (some (vI (-1 : Int))) M)) ∧ (¬ ((if 0 ≤ p ∧ p < iv M 29 0 then (1 : Int) else (0 : Int)) = (0 : Int)) → (((n < (0 : Int)) → (Q (some (vI (-1 : Int))) M)) ∧ (¬ (n < (0 : Int)) → ((((8 : Int) < n) → (Q (some (vI (-1 : Int))) M)) ∧ (¬ ((8 : Int) < n) → (((v < (0 : Int)) → (Q (some (vI (-1 : Int))) M)) ∧ (¬ (v < (0 : Int)) → (((v ≤ (9999 : Int)) → (Call e mX6_note [vR 387, vI p, vI n, vI v, vI mo] M (fun r9 M7 => ∃ z6 : Int, r9 = some (vI z6) ∧ Shp M7 ∧ (Q (some (vI (if z6 = (0 : Int) then (-1 : Int) else iv M7 387 4))) M7)))) ∧ (¬ (v ≤ (9999 : Int)) → (Q (some (vI (-1 : Int))) M))))))))))) :
  Call (e + 1) mX10_seen [vR 6, vI p, vI n, vI v, vI mo] M Q := by
  show Run (e + 1) mX10_seen 0 [some (vR 6), some (vI p), some (vI n), some (vI v), some (vI mo)] [] M Q
  refine r_aload_n dX10_seen_0 rfl ?_
  refine r_getS (v := 29) dX10_seen_1 kF10_50 (sh_o hS kk6 (by decide)) (sh_f hS rr6_9 (by decide)) ?_
  refine r_iload_n dX10_seen_4 rfl ?_
  refine r_invV_i dX10_seen_5 kM10_179 (by decide) (Nat.le_of_ble_eq_true rfl) rfl rfl (Nat.le_of_ble_eq_true rfl) (Nat.le_of_ble_eq_true rfl) (sh_o hS kk29 (by decide)) (i_has (by omega) hS ⟨_, rfl, ?_⟩)
  refine r_if_eq dX10_seen_8 rfl (fun c1 => ?_) (fun c1 => ?_)
  · refine r_iconst dX10_seen_32 (by decide) ?_
    exact r_iret dX10_seen_33 rfl (h.1 c1)
  · refine r_iload_n dX10_seen_11 rfl ?_
    refine r_if_lt dX10_seen_12 rfl (fun c2 => ?_) (fun c2 => ?_)
    · refine r_iconst dX10_seen_32 (by decide) ?_
      exact r_iret dX10_seen_33 rfl ((h.2 c1).1 c2)
    · refine r_iload_n dX10_seen_15 rfl ?_
      refine r_bipush dX10_seen_16 (by decide) ?_
      refine r_icmp_gt dX10_seen_18 rfl (fun c3 => ?_) (fun c3 => ?_)
      · refine r_iconst dX10_seen_32 (by decide) ?_
        exact r_iret dX10_seen_33 rfl (((h.2 c1).2 c2).1 c3)
      · refine r_iload_n dX10_seen_21 rfl ?_
        refine r_if_lt dX10_seen_22 rfl (fun c4 => ?_) (fun c4 => ?_)
        · refine r_iconst dX10_seen_32 (by decide) ?_
          exact r_iret dX10_seen_33 rfl ((((h.2 c1).2 c2).2 c3).1 c4)
        · refine r_iload_n dX10_seen_25 rfl ?_
          refine r_sipush dX10_seen_26 (by decide) ?_
          refine r_icmp_le dX10_seen_29 rfl (fun c5 => ?_) (fun c5 => ?_)
          · refine r_aload_n dX10_seen_34 rfl ?_
            refine r_getS (v := 387) dX10_seen_35 kF10_80 (sh_o hS kk6 (by decide)) (sh_f hS rr6_16 (by decide)) ?_
            refine r_iload_n dX10_seen_38 rfl ?_
            refine r_iload_n dX10_seen_39 rfl ?_
            refine r_iload_n dX10_seen_40 rfl ?_
            refine r_iload dX10_seen_41 rfl ?_
            refine r_invV_i dX10_seen_43 kM10_393 (by decide) (Nat.le_of_ble_eq_true rfl) rfl rfl (Nat.le_of_ble_eq_true rfl) (Nat.le_of_ble_eq_true rfl) (sh_o hS kk387 (by decide)) (Call.mono (((((h.2 c1).2 c2).2 c3).2 c4).1 c5) (Nat.le_refl _) ?_)
            rintro _ M7 ⟨z6, rfl, s10, h8⟩
            refine ⟨_, rfl, ?_⟩
            have K11 : Run (e + 1) mX10_seen 60 [some (vR 6), some (vI p), some (vI n), some (vI v), some (vI mo)] [vI (if z6 = (0 : Int) then (-1 : Int) else iv M7 387 4)] M7 Q := by
              exact r_iret dX10_seen_60 rfl h8
            refine r_if_eq dX10_seen_46 rfl (fun q12 => ?_) (fun q12 => ?_)
            · rw [if_pos q12] at K11
              refine r_iconst dX10_seen_59 (by decide) ?_
              exact K11
            · rw [if_neg q12] at K11
              refine r_aload_n dX10_seen_49 rfl ?_
              refine r_getS (v := 387) dX10_seen_50 kF10_80 (sh_o s10 kk6 (by decide)) (sh_f s10 rr6_16 (by decide)) ?_
              refine r_get0 dX10_seen_53 kF10_255 (sh_o s10 kk387 (by decide)) ?_
              refine r_goto (tgt := 60) dX10_seen_56 rfl ?_
              exact K11
          · refine r_iconst dX10_seen_32 (by decide) ?_
            exact r_iret dX10_seen_33 rfl (((((h.2 c1).2 c2).2 c3).2 c4).2 c5)
theorem vx_fits {e : Nat} {M : jM} {Q : Option jV → jM → Prop} {i : Int} (he : 4 ≤ e) (hS : Shp M)
  (h : (((if 0 < iv M 29 0 then (1 : Int) else (0 : Int)) = (0 : Int)) → (Q (some (vI (-1 : Int))) M)) ∧ (¬ ((if 0 < iv M 29 0 then (1 : Int) else (0 : Int)) = (0 : Int)) → ((((-1 : Int) ≤ i) → (Call e mX6_solve [vR 387, vR 29, vR 41] M (fun r6 M4 => r6 = none ∧ Shp M4 ∧ (((i ≠ (-1 : Int)) → (Q (some (vI (if (iv M4 387 11) ≤ i then (-1 : Int) else (atv M4 1512 403 i)))) M4)) ∧ (¬ (i ≠ (-1 : Int)) → (Q (some (vI (iv M4 387 11))) M4)))))) ∧ (¬ ((-1 : Int) ≤ i) → (Q (some (vI (-1 : Int))) M))))) :
  Call (e + 1) mX10_fits [vR 6, vI i] M Q := by
  show Run (e + 1) mX10_fits 0 [some (vR 6), some (vI i)] [] M Q
  refine r_aload_n dX10_fits_0 rfl ?_
  refine r_invV_i dX10_fits_1 kM10_164 (by decide) (Nat.le_of_ble_eq_true rfl) rfl rfl (Nat.le_of_ble_eq_true rfl) (Nat.le_of_ble_eq_true rfl) (sh_o hS kk6 (by decide)) (c_hasIsland (by omega) hS ⟨_, rfl, ?_⟩)
  refine r_if_eq dX10_fits_4 rfl (fun c1 => ?_) (fun c1 => ?_)
  · refine r_iconst dX10_fits_12 (by decide) ?_
    exact r_iret dX10_fits_13 rfl (h.1 c1)
  · refine r_iload_n dX10_fits_7 rfl ?_
    refine r_iconst dX10_fits_8 (by decide) ?_
    refine r_icmp_ge dX10_fits_9 rfl (fun c2 => ?_) (fun c2 => ?_)
    · refine r_aload_n dX10_fits_14 rfl ?_
      refine r_getS (v := 387) dX10_fits_15 kF10_80 (sh_o hS kk6 (by decide)) (sh_f hS rr6_16 (by decide)) ?_
      refine r_aload_n dX10_fits_18 rfl ?_
      refine r_getS (v := 29) dX10_fits_19 kF10_50 (sh_o hS kk6 (by decide)) (sh_f hS rr6_9 (by decide)) ?_
      refine r_aload_n dX10_fits_22 rfl ?_
      refine r_getS (v := 41) dX10_fits_23 kF10_61 (sh_o hS kk6 (by decide)) (sh_f hS rr6_11 (by decide)) ?_
      refine r_invV_v dX10_fits_26 kM10_396 (by decide) (Nat.le_of_ble_eq_true rfl) rfl rfl (Nat.le_of_ble_eq_true rfl) (Nat.le_of_ble_eq_true rfl) (sh_o hS kk387 (by decide)) (Call.mono ((h.2 c1).1 c2) (Nat.le_refl _) ?_)
      rintro _ M4 ⟨rfl, s7, h5⟩
      refine ⟨rfl, ?_⟩
      refine r_iload_n dX10_fits_29 rfl ?_
      refine r_iconst dX10_fits_30 (by decide) ?_
      refine r_icmp_ne dX10_fits_31 rfl (fun c8 => ?_) (fun c8 => ?_)
      · refine r_iload_n dX10_fits_42 rfl ?_
        refine r_aload_n dX10_fits_43 rfl ?_
        refine r_getS (v := 387) dX10_fits_44 kF10_80 (sh_o s7 kk6 (by decide)) (sh_f s7 rr6_16 (by decide)) ?_
        refine r_get0 dX10_fits_47 kF10_400 (sh_o s7 kk387 (by decide)) ?_
        have K9 : Run (e + 1) mX10_fits 68 [some (vR 6), some (vI i)] [vI (if (iv M4 387 11) ≤ i then (-1 : Int) else (atv M4 1512 403 i))] M4 Q := by
          exact r_iret dX10_fits_68 rfl (h5.1 c8)
        refine r_icmp_ge dX10_fits_50 rfl (fun q10 => ?_) (fun q10 => ?_)
        · rw [if_pos q10] at K9
          refine r_iconst dX10_fits_67 (by decide) ?_
          exact K9
        · rw [if_neg q10] at K9
          refine r_aload_n dX10_fits_53 rfl ?_
          refine r_getS (v := 387) dX10_fits_54 kF10_80 (sh_o s7 kk6 (by decide)) (sh_f s7 rr6_16 (by decide)) ?_
          refine r_getS (v := 403) dX10_fits_57 kF10_403 (sh_o s7 kk387 (by decide)) (sh_f s7 rr387_10 (by decide)) ?_
          refine r_iload_n dX10_fits_60 rfl ?_
          refine r_invS_i dX10_fits_61 (by decide) kXn10_193 kM10_193 (by decide) (Nat.le_of_ble_eq_true rfl) rfl rfl (Nat.le_of_ble_eq_true rfl) (Nat.le_of_ble_eq_true rfl) (c_at (by omega) (sh_r s7 kk403 (by decide)) ⟨_, rfl, ?_⟩)
          refine r_goto (tgt := 68) dX10_fits_64 rfl ?_
          exact K9
      · refine r_aload_n dX10_fits_34 rfl ?_
        refine r_getS (v := 387) dX10_fits_35 kF10_80 (sh_o s7 kk6 (by decide)) (sh_f s7 rr6_16 (by decide)) ?_
        refine r_get0 dX10_fits_38 kF10_400 (sh_o s7 kk387 (by decide)) ?_
        exact r_iret dX10_fits_41 rfl (h5.2 c8)
    · refine r_iconst dX10_fits_12 (by decide) ?_
      exact r_iret dX10_fits_13 rfl ((h.2 c1).2 c2)
theorem vx_ask {e : Nat} {M : jM} {Q : Option jV → jM → Prop} {p : Int} (he : 4 ≤ e) (hS : Shp M)
  (h : (((if 0 ≤ p ∧ p < iv M 29 0 then (1 : Int) else (0 : Int)) ≠ (0 : Int)) → (Call e mX6_solve [vR 387, vR 29, vR 41] M (fun r5 M3 => r5 = none ∧ Shp M3 ∧ ((((iv M3 387 11) ≠ (0 : Int)) → (Call e mX6_bestHoursToAsk [vR 387, vR 41, vI p] M3 (fun r11 M9 => ∃ z8 : Int, r11 = some (vI z8) ∧ Shp M9 ∧ (Q (some (vI z8)) M9)))) ∧ (¬ ((iv M3 387 11) ≠ (0 : Int)) → (Q (some (vI (-1 : Int))) M3)))))) ∧ (¬ ((if 0 ≤ p ∧ p < iv M 29 0 then (1 : Int) else (0 : Int)) ≠ (0 : Int)) → (Q (some (vI (-1 : Int))) M))) :
  Call (e + 1) mX10_ask [vR 6, vI p] M Q := by
  show Run (e + 1) mX10_ask 0 [some (vR 6), some (vI p)] [] M Q
  refine r_aload_n dX10_ask_0 rfl ?_
  refine r_getS (v := 29) dX10_ask_1 kF10_50 (sh_o hS kk6 (by decide)) (sh_f hS rr6_9 (by decide)) ?_
  refine r_iload_n dX10_ask_4 rfl ?_
  refine r_invV_i dX10_ask_5 kM10_179 (by decide) (Nat.le_of_ble_eq_true rfl) rfl rfl (Nat.le_of_ble_eq_true rfl) (Nat.le_of_ble_eq_true rfl) (sh_o hS kk29 (by decide)) (i_has (by omega) hS ⟨_, rfl, ?_⟩)
  refine r_if_ne dX10_ask_8 rfl (fun c1 => ?_) (fun c1 => ?_)
  · refine r_aload_n dX10_ask_13 rfl ?_
    refine r_getS (v := 387) dX10_ask_14 kF10_80 (sh_o hS kk6 (by decide)) (sh_f hS rr6_16 (by decide)) ?_
    refine r_aload_n dX10_ask_17 rfl ?_
    refine r_getS (v := 29) dX10_ask_18 kF10_50 (sh_o hS kk6 (by decide)) (sh_f hS rr6_9 (by decide)) ?_
    refine r_aload_n dX10_ask_21 rfl ?_
    refine r_getS (v := 41) dX10_ask_22 kF10_61 (sh_o hS kk6 (by decide)) (sh_f hS rr6_11 (by decide)) ?_
    refine r_invV_v dX10_ask_25 kM10_396 (by decide) (Nat.le_of_ble_eq_true rfl) rfl rfl (Nat.le_of_ble_eq_true rfl) (Nat.le_of_ble_eq_true rfl) (sh_o hS kk387 (by decide)) (Call.mono (h.1 c1) (Nat.le_refl _) ?_)
    rintro _ M3 ⟨rfl, s6, h4⟩
    refine ⟨rfl, ?_⟩
    refine r_aload_n dX10_ask_28 rfl ?_
    refine r_getS (v := 387) dX10_ask_29 kF10_80 (sh_o s6 kk6 (by decide)) (sh_f s6 rr6_16 (by decide)) ?_
    refine r_get0 dX10_ask_32 kF10_400 (sh_o s6 kk387 (by decide)) ?_
    refine r_if_ne dX10_ask_35 rfl (fun c7 => ?_) (fun c7 => ?_)
    · refine r_aload_n dX10_ask_42 rfl ?_
      refine r_getS (v := 387) dX10_ask_43 kF10_80 (sh_o s6 kk6 (by decide)) (sh_f s6 rr6_16 (by decide)) ?_
      refine r_aload_n dX10_ask_46 rfl ?_
      refine r_getS (v := 41) dX10_ask_47 kF10_61 (sh_o s6 kk6 (by decide)) (sh_f s6 rr6_11 (by decide)) ?_
      refine r_iload_n dX10_ask_50 rfl ?_
      refine r_invV_i dX10_ask_51 kM10_406 (by decide) (Nat.le_of_ble_eq_true rfl) rfl rfl (Nat.le_of_ble_eq_true rfl) (Nat.le_of_ble_eq_true rfl) (sh_o s6 kk387 (by decide)) (Call.mono (h4.1 c7) (Nat.le_refl _) ?_)
      rintro _ M9 ⟨z8, rfl, s12, h10⟩
      refine ⟨_, rfl, ?_⟩
      exact r_iret dX10_ask_54 rfl h10
    · refine r_iconst dX10_ask_38 (by decide) ?_
      refine r_goto (tgt := 54) dX10_ask_39 rfl ?_
      exact r_iret dX10_ask_54 rfl (h4.2 c7)
  · refine r_iconst dX10_ask_11 (by decide) ?_
    exact r_iret dX10_ask_12 rfl (h.2 c1)
theorem vx_game {e : Nat} {M : jM} {Q : Option jV → jM → Prop} {p : Int} {q : Int} {x : Int} {y : Int} {w : Int} (he : 4 ≤ e) (hS : Shp M)
  (h : Call e mX10_areTwo [vR 6, vI p, vI q] M (fun r4 M2 => ∃ z1 : Int, r4 = some (vI z1) ∧ Shp M2 ∧ (((z1 = (0 : Int)) → (Q (some (vI (-1000000 : Int))) M2)) ∧ (¬ (z1 = (0 : Int)) → (((x < (0 : Int)) → (Q (some (vI (-1000000 : Int))) M2)) ∧ (¬ (x < (0 : Int)) → ((((2 : Int) < x) → (Q (some (vI (-1000000 : Int))) M2)) ∧ (¬ ((2 : Int) < x) → (((y < (0 : Int)) → (Q (some (vI (-1000000 : Int))) M2)) ∧ (¬ (y < (0 : Int)) → ((((2 : Int) < y) → (Q (some (vI (-1000000 : Int))) M2)) ∧ (¬ ((2 : Int) < y) → (((w < (0 : Int)) → (Q (some (vI (-1000000 : Int))) M2)) ∧ (¬ (w < (0 : Int)) → (((w ≤ (1 : Int)) → (Call e mX10_play [vR 6, vI p, vI q, vI x, vI y] M2 (fun r16 M14 => r16 = none ∧ Shp M14 ∧ (((w ≠ (0 : Int)) → (Call e mX10_gainOf [vR 6, vI q, vI p] M14 (fun r22 M20 => ∃ z19 : Int, r22 = some (vI z19) ∧ Shp M20 ∧ (Q (some (vI z19)) M20)))) ∧ (¬ (w ≠ (0 : Int)) → (Call e mX10_gainOf [vR 6, vI p, vI q] M14 (fun r27 M25 => ∃ z24 : Int, r27 = some (vI z24) ∧ Shp M25 ∧ (Q (some (vI z24)) M25)))))))) ∧ (¬ (w ≤ (1 : Int)) → (Q (some (vI (-1000000 : Int))) M2))))))))))))))))) :
  Call (e + 1) mX10_game [vR 6, vI p, vI q, vI x, vI y, vI w] M Q := by
  show Run (e + 1) mX10_game 0 [some (vR 6), some (vI p), some (vI q), some (vI x), some (vI y), some (vI w)] [] M Q
  refine r_aload_n dX10_game_0 rfl ?_
  refine r_iload_n dX10_game_1 rfl ?_
  refine r_iload_n dX10_game_2 rfl ?_
  refine r_invV_i dX10_game_3 kM10_409 (by decide) (Nat.le_of_ble_eq_true rfl) rfl rfl (Nat.le_of_ble_eq_true rfl) (Nat.le_of_ble_eq_true rfl) (sh_o hS kk6 (by decide)) (Call.mono h (Nat.le_refl _) ?_)
  rintro _ M2 ⟨z1, rfl, s5, h3⟩
  refine ⟨_, rfl, ?_⟩
  refine r_if_eq dX10_game_6 rfl (fun c6 => ?_) (fun c6 => ?_)
  · refine r_ldc_w dX10_game_40 kK10_261 ?_
    exact r_iret dX10_game_43 rfl (h3.1 c6)
  · refine r_iload_n dX10_game_9 rfl ?_
    refine r_if_lt dX10_game_10 rfl (fun c7 => ?_) (fun c7 => ?_)
    · refine r_ldc_w dX10_game_40 kK10_261 ?_
      exact r_iret dX10_game_43 rfl ((h3.2 c6).1 c7)
    · refine r_iload_n dX10_game_13 rfl ?_
      refine r_iconst dX10_game_14 (by decide) ?_
      refine r_icmp_gt dX10_game_15 rfl (fun c8 => ?_) (fun c8 => ?_)
      · refine r_ldc_w dX10_game_40 kK10_261 ?_
        exact r_iret dX10_game_43 rfl (((h3.2 c6).2 c7).1 c8)
      · refine r_iload dX10_game_18 rfl ?_
        refine r_if_lt dX10_game_20 rfl (fun c9 => ?_) (fun c9 => ?_)
        · refine r_ldc_w dX10_game_40 kK10_261 ?_
          exact r_iret dX10_game_43 rfl ((((h3.2 c6).2 c7).2 c8).1 c9)
        · refine r_iload dX10_game_23 rfl ?_
          refine r_iconst dX10_game_25 (by decide) ?_
          refine r_icmp_gt dX10_game_26 rfl (fun c10 => ?_) (fun c10 => ?_)
          · refine r_ldc_w dX10_game_40 kK10_261 ?_
            exact r_iret dX10_game_43 rfl (((((h3.2 c6).2 c7).2 c8).2 c9).1 c10)
          · refine r_iload dX10_game_29 rfl ?_
            refine r_if_lt dX10_game_31 rfl (fun c11 => ?_) (fun c11 => ?_)
            · refine r_ldc_w dX10_game_40 kK10_261 ?_
              exact r_iret dX10_game_43 rfl ((((((h3.2 c6).2 c7).2 c8).2 c9).2 c10).1 c11)
            · refine r_iload dX10_game_34 rfl ?_
              refine r_iconst dX10_game_36 (by decide) ?_
              refine r_icmp_le dX10_game_37 rfl (fun c12 => ?_) (fun c12 => ?_)
              · refine r_aload_n dX10_game_44 rfl ?_
                refine r_iload_n dX10_game_45 rfl ?_
                refine r_iload_n dX10_game_46 rfl ?_
                refine r_iload_n dX10_game_47 rfl ?_
                refine r_iload dX10_game_48 rfl ?_
                refine r_invV_v dX10_game_50 kM10_412 (by decide) (Nat.le_of_ble_eq_true rfl) rfl rfl (Nat.le_of_ble_eq_true rfl) (Nat.le_of_ble_eq_true rfl) (sh_o s5 kk6 (by decide)) (Call.mono (((((((h3.2 c6).2 c7).2 c8).2 c9).2 c10).2 c11).1 c12) (Nat.le_refl _) ?_)
                rintro _ M14 ⟨rfl, s17, h15⟩
                refine ⟨rfl, ?_⟩
                refine r_iload dX10_game_53 rfl ?_
                refine r_if_ne dX10_game_55 rfl (fun c18 => ?_) (fun c18 => ?_)
                · refine r_aload_n dX10_game_67 rfl ?_
                  refine r_iload_n dX10_game_68 rfl ?_
                  refine r_iload_n dX10_game_69 rfl ?_
                  refine r_invV_i dX10_game_70 kM10_416 (by decide) (Nat.le_of_ble_eq_true rfl) rfl rfl (Nat.le_of_ble_eq_true rfl) (Nat.le_of_ble_eq_true rfl) (sh_o s17 kk6 (by decide)) (Call.mono (h15.1 c18) (Nat.le_refl _) ?_)
                  rintro _ M20 ⟨z19, rfl, s23, h21⟩
                  refine ⟨_, rfl, ?_⟩
                  exact r_iret dX10_game_73 rfl h21
                · refine r_aload_n dX10_game_58 rfl ?_
                  refine r_iload_n dX10_game_59 rfl ?_
                  refine r_iload_n dX10_game_60 rfl ?_
                  refine r_invV_i dX10_game_61 kM10_416 (by decide) (Nat.le_of_ble_eq_true rfl) rfl rfl (Nat.le_of_ble_eq_true rfl) (Nat.le_of_ble_eq_true rfl) (sh_o s17 kk6 (by decide)) (Call.mono (h15.2 c18) (Nat.le_refl _) ?_)
                  rintro _ M25 ⟨z24, rfl, s28, h26⟩
                  refine ⟨_, rfl, ?_⟩
                  refine r_goto (tgt := 73) dX10_game_64 rfl ?_
                  exact r_iret dX10_game_73 rfl h26
              · refine r_ldc_w dX10_game_40 kK10_261 ?_
                exact r_iret dX10_game_43 rfl (((((((h3.2 c6).2 c7).2 c8).2 c9).2 c10).2 c11).2 c12)
theorem vx_rests {e : Nat} {M : jM} {Q : Option jV → jM → Prop} {p : Int} {q : Int} {i : Int} (he : 4 ≤ e) (hS : Shp M)
  (h : Call e mX10_areTwo [vR 6, vI p, vI q] M (fun r4 M2 => ∃ z1 : Int, r4 = some (vI z1) ∧ Shp M2 ∧ (((z1 = (0 : Int)) → (Q (some (vI (-1 : Int))) M2)) ∧ (¬ (z1 = (0 : Int)) → ((((-1 : Int) ≤ i) → (Run (e + 1) mX10_rests 19 [some (vR 6), some (vI p), some (vI q), some (vI i), some (vI (0 : Int)), none] [] M2 Q)) ∧ (¬ ((-1 : Int) ≤ i) → (Q (some (vI (-1 : Int))) M2))))))) :
  Call (e + 1) mX10_rests [vR 6, vI p, vI q, vI i] M Q := by
  show Run (e + 1) mX10_rests 0 [some (vR 6), some (vI p), some (vI q), some (vI i), none, none] [] M Q
  refine r_aload_n dX10_rests_0 rfl ?_
  refine r_iload_n dX10_rests_1 rfl ?_
  refine r_iload_n dX10_rests_2 rfl ?_
  refine r_invV_i dX10_rests_3 kM10_409 (by decide) (Nat.le_of_ble_eq_true rfl) rfl rfl (Nat.le_of_ble_eq_true rfl) (Nat.le_of_ble_eq_true rfl) (sh_o hS kk6 (by decide)) (Call.mono h (Nat.le_refl _) ?_)
  rintro _ M2 ⟨z1, rfl, s5, h3⟩
  refine ⟨_, rfl, ?_⟩
  refine r_if_eq dX10_rests_6 rfl (fun c6 => ?_) (fun c6 => ?_)
  · refine r_iconst dX10_rests_14 (by decide) ?_
    exact r_iret dX10_rests_15 rfl (h3.1 c6)
  · refine r_iload_n dX10_rests_9 rfl ?_
    refine r_iconst dX10_rests_10 (by decide) ?_
    refine r_icmp_ge dX10_rests_11 rfl (fun c7 => ?_) (fun c7 => ?_)
    · refine r_iconst dX10_rests_16 (by decide) ?_
      refine r_istore (ls2 := [some (vR 6), some (vI p), some (vI q), some (vI i), some (vI (0 : Int)), none]) dX10_rests_17 (Nat.le_of_ble_eq_true rfl) rfl ?_
      exact ((h3.2 c6).1 c7)
    · refine r_iconst dX10_rests_14 (by decide) ?_
      exact r_iret dX10_rests_15 rfl ((h3.2 c6).2 c7)
theorem vx_rests_19 {e : Nat} {M : jM} {Q : Option jV → jM → Prop} {p : Int} {q : Int} {i : Int} {l4 : Int} {l5 : Option jV}  (he : 4 ≤ e) (hS : Shp M)
  (h : (((2 : Int) < l4) → (Call e mX10_countOrFind [vR 6, vI i] M (fun r12 M10 => ∃ z9 : Int, r12 = some (vI z9) ∧ Shp M10 ∧ (Q (some (vI z9)) M10)))) ∧ (¬ ((2 : Int) < l4) → (Run (e + 1) mX10_rests 28 [some (vR 6), some (vI p), some (vI q), some (vI i), some (vI l4), some (vI (0 : Int))] [] M Q))) :
  Run (e + 1) mX10_rests 19 [some (vR 6), some (vI p), some (vI q), some (vI i), some (vI l4), l5] [] M Q := by
  refine r_iload dX10_rests_19 rfl ?_
  refine r_iconst dX10_rests_21 (by decide) ?_
  refine r_icmp_gt dX10_rests_22 rfl (fun c8 => ?_) (fun c8 => ?_)
  · refine r_aload_n dX10_rests_104 rfl ?_
    refine r_iload_n dX10_rests_105 rfl ?_
    refine r_invV_i dX10_rests_106 kM10_419 (by decide) (Nat.le_of_ble_eq_true rfl) rfl rfl (Nat.le_of_ble_eq_true rfl) (Nat.le_of_ble_eq_true rfl) (sh_o hS kk6 (by decide)) (Call.mono (h.1 c8) (Nat.le_refl _) ?_)
    rintro _ M10 ⟨z9, rfl, s13, h11⟩
    refine ⟨_, rfl, ?_⟩
    exact r_iret dX10_rests_109 rfl h11
  · refine r_iconst dX10_rests_25 (by decide) ?_
    refine r_istore (ls2 := [some (vR 6), some (vI p), some (vI q), some (vI i), some (vI l4), some (vI (0 : Int))]) dX10_rests_26 (Nat.le_of_ble_eq_true rfl) rfl ?_
    exact (h.2 c8)
theorem vx_rests_28 {e : Nat} {M : jM} {Q : Option jV → jM → Prop} {p : Int} {q : Int} {i : Int} {l4 : Int} {l5 : Int}  (he : 4 ≤ e) (hS : Shp M)
  (h : (((2 : Int) < l5) → (Run (e + 1) mX10_rests 19 [some (vR 6), some (vI p), some (vI q), some (vI i), some (vI (w32 (l4 + (1 : Int)))), some (vI l5)] [] M Q)) ∧ (¬ ((2 : Int) < l5) → (Call e mX10_play [vR 6, vI p, vI q, vI l4, vI l5] M (fun r18 M16 => r18 = none ∧ Shp M16 ∧ (Call e mX10_gainOf [vR 6, vI p, vI q] M16 (fun r23 M21 => ∃ z20 : Int, r23 = some (vI z20) ∧ Shp M21 ∧ (∀ N25 : jM, N25 = (ptv M21 18 467 (w32 ((w32 ((6 : Int) * l4)) + (w32 ((2 : Int) * l5)))) z20) → Shp N25 → (∀ v27 : Int, v27 = (w32 ((w32 ((w32 ((6 : Int) * l4)) + (w32 ((2 : Int) * l5)))) + (1 : Int))) → (Call e mX10_gainOf [vR 6, vI q, vI p] N25 (fun r31 M29 => ∃ z28 : Int, r31 = some (vI z28) ∧ Shp M29 ∧ (∀ N33 : jM, N33 = (ptv M29 18 467 v27 z28) → Shp N33 → (Run (e + 1) mX10_rests 28 [some (vR 6), some (vI p), some (vI q), some (vI i), some (vI l4), some (vI (w32 (l5 + (1 : Int))))] [] N33 Q)))))))))))) :
  Run (e + 1) mX10_rests 28 [some (vR 6), some (vI p), some (vI q), some (vI i), some (vI l4), some (vI l5)] [] M Q := by
  refine r_iload dX10_rests_28 rfl ?_
  refine r_iconst dX10_rests_30 (by decide) ?_
  refine r_icmp_gt dX10_rests_31 rfl (fun c14 => ?_) (fun c14 => ?_)
  · refine r_iinc (ls2 := [some (vR 6), some (vI p), some (vI q), some (vI i), some (vI (w32 (l4 + (1 : Int)))), some (vI l5)]) dX10_rests_98 rfl rfl ?_
    refine r_goto (tgt := 19) dX10_rests_101 rfl ?_
    exact (h.1 c14)
  · refine r_aload_n dX10_rests_34 rfl ?_
    refine r_iload_n dX10_rests_35 rfl ?_
    refine r_iload_n dX10_rests_36 rfl ?_
    refine r_iload dX10_rests_37 rfl ?_
    refine r_iload dX10_rests_39 rfl ?_
    refine r_invV_v dX10_rests_41 kM10_412 (by decide) (Nat.le_of_ble_eq_true rfl) rfl rfl (Nat.le_of_ble_eq_true rfl) (Nat.le_of_ble_eq_true rfl) (sh_o hS kk6 (by decide)) (Call.mono (h.2 c14) (Nat.le_refl _) ?_)
    rintro _ M16 ⟨rfl, s19, h17⟩
    refine ⟨rfl, ?_⟩
    refine r_aload_n dX10_rests_44 rfl ?_
    refine r_getS (v := 467) dX10_rests_45 kF10_98 (sh_o s19 kk6 (by decide)) (sh_f s19 rr6_19 (by decide)) ?_
    refine r_bipush dX10_rests_48 (by decide) ?_
    refine r_iload dX10_rests_50 rfl ?_
    refine r_imul dX10_rests_52 ?_
    refine r_iconst dX10_rests_53 (by decide) ?_
    refine r_iload dX10_rests_54 rfl ?_
    refine r_imul dX10_rests_56 ?_
    refine r_iadd dX10_rests_57 ?_
    refine r_aload_n dX10_rests_58 rfl ?_
    refine r_iload_n dX10_rests_59 rfl ?_
    refine r_iload_n dX10_rests_60 rfl ?_
    refine r_invV_i dX10_rests_61 kM10_416 (by decide) (Nat.le_of_ble_eq_true rfl) rfl rfl (Nat.le_of_ble_eq_true rfl) (Nat.le_of_ble_eq_true rfl) (sh_o s19 kk6 (by decide)) (Call.mono h17 (Nat.le_refl _) ?_)
    rintro _ M21 ⟨z20, rfl, s24, h22⟩
    refine ⟨_, rfl, ?_⟩
    refine r_invS_v dX10_rests_64 (by decide) kXn10_278 kM10_278 (by decide) (Nat.le_of_ble_eq_true rfl) rfl rfl (Nat.le_of_ble_eq_true rfl) (Nat.le_of_ble_eq_true rfl) (c_put (by omega) (sh_r s24 kk467 (by decide)) (by decide) ⟨rfl, ?_⟩)
    have K36 : ∀ N25 : jM, N25 = (ptv M21 18 467 (w32 ((w32 ((6 : Int) * l4)) + (w32 ((2 : Int) * l5)))) z20) → Run (e + 1) mX10_rests 67 [some (vR 6), some (vI p), some (vI q), some (vI i), some (vI l4), some (vI l5)] [] N25 Q := by
      intro N25 hN35
      have sN26 : Shp N25 := by rw [hN35]; exact s24
      refine r_aload_n dX10_rests_67 rfl ?_
      refine r_getS (v := 467) dX10_rests_68 kF10_98 (sh_o sN26 kk6 (by decide)) (sh_f sN26 rr6_19 (by decide)) ?_
      refine r_bipush dX10_rests_71 (by decide) ?_
      refine r_iload dX10_rests_73 rfl ?_
      refine r_imul dX10_rests_75 ?_
      refine r_iconst dX10_rests_76 (by decide) ?_
      refine r_iload dX10_rests_77 rfl ?_
      refine r_imul dX10_rests_79 ?_
      refine r_iadd dX10_rests_80 ?_
      refine r_iconst dX10_rests_81 (by decide) ?_
      refine r_iadd dX10_rests_82 ?_
      have K38 : ∀ v27 : Int, v27 = (w32 ((w32 ((w32 ((6 : Int) * l4)) + (w32 ((2 : Int) * l5)))) + (1 : Int))) → Run (e + 1) mX10_rests 83 [some (vR 6), some (vI p), some (vI q), some (vI i), some (vI l4), some (vI l5)] [vI v27, vR 467] N25 Q := by
        intro v27 hv37
        refine r_aload_n dX10_rests_83 rfl ?_
        refine r_iload_n dX10_rests_84 rfl ?_
        refine r_iload_n dX10_rests_85 rfl ?_
        refine r_invV_i dX10_rests_86 kM10_416 (by decide) (Nat.le_of_ble_eq_true rfl) rfl rfl (Nat.le_of_ble_eq_true rfl) (Nat.le_of_ble_eq_true rfl) (sh_o sN26 kk6 (by decide)) (Call.mono ((h22 N25 hN35 sN26) v27 hv37) (Nat.le_refl _) ?_)
        rintro _ M29 ⟨z28, rfl, s32, h30⟩
        refine ⟨_, rfl, ?_⟩
        refine r_invS_v dX10_rests_89 (by decide) kXn10_278 kM10_278 (by decide) (Nat.le_of_ble_eq_true rfl) rfl rfl (Nat.le_of_ble_eq_true rfl) (Nat.le_of_ble_eq_true rfl) (c_put (by omega) (sh_r s32 kk467 (by decide)) (by decide) ⟨rfl, ?_⟩)
        have K40 : ∀ N33 : jM, N33 = (ptv M29 18 467 v27 z28) → Run (e + 1) mX10_rests 92 [some (vR 6), some (vI p), some (vI q), some (vI i), some (vI l4), some (vI l5)] [] N33 Q := by
          intro N33 hN39
          have sN34 : Shp N33 := by rw [hN39]; exact s32
          refine r_iinc (ls2 := [some (vR 6), some (vI p), some (vI q), some (vI i), some (vI l4), some (vI (w32 (l5 + (1 : Int))))]) dX10_rests_92 rfl rfl ?_
          refine r_goto (tgt := 28) dX10_rests_95 rfl ?_
          exact (h30 N33 hN39 sN34)
        exact K40 _ rfl
      exact K38 _ rfl
    exact K36 _ rfl
theorem vx_countOrFind {e : Nat} {M : jM} {Q : Option jV → jM → Prop} {i : Int} (he : 4 ≤ e) (hS : Shp M)
  (h : Run (e + 1) mX10_countOrFind 4 [some (vR 6), some (vI i), some (vI (0 : Int)), some (vI (0 : Int)), none] [] M Q) :
  Call (e + 1) mX10_countOrFind [vR 6, vI i] M Q := by
  show Run (e + 1) mX10_countOrFind 0 [some (vR 6), some (vI i), none, none, none] [] M Q
  refine r_iconst dX10_countOrFind_0 (by decide) ?_
  refine r_istore_n (ls2 := [some (vR 6), some (vI i), some (vI (0 : Int)), none, none]) dX10_countOrFind_1 (Nat.le_of_ble_eq_true rfl) rfl ?_
  refine r_iconst dX10_countOrFind_2 (by decide) ?_
  refine r_istore_n (ls2 := [some (vR 6), some (vI i), some (vI (0 : Int)), some (vI (0 : Int)), none]) dX10_countOrFind_3 (Nat.le_of_ble_eq_true rfl) rfl ?_
  exact h
theorem vx_countOrFind_4 {e : Nat} {M : jM} {Q : Option jV → jM → Prop} {i : Int} {l2 : Int} {l3 : Int} {l4 : Option jV}  (he : 4 ≤ e) (hS : Shp M)
  (h : (((2 : Int) < l3) → (Q (some (vI (if i ≠ (-1 : Int) then (-1 : Int) else l2))) M)) ∧ (¬ ((2 : Int) < l3) → (Run (e + 1) mX10_countOrFind 12 [some (vR 6), some (vI i), some (vI l2), some (vI l3), some (vI (0 : Int))] [] M Q))) :
  Run (e + 1) mX10_countOrFind 4 [some (vR 6), some (vI i), some (vI l2), some (vI l3), l4] [] M Q := by
  refine r_iload_n dX10_countOrFind_4 rfl ?_
  refine r_iconst dX10_countOrFind_5 (by decide) ?_
  refine r_icmp_gt dX10_countOrFind_6 rfl (fun c1 => ?_) (fun c1 => ?_)
  · refine r_iload_n dX10_countOrFind_56 rfl ?_
    refine r_iconst dX10_countOrFind_57 (by decide) ?_
    have K2 : Run (e + 1) mX10_countOrFind 66 [some (vR 6), some (vI i), some (vI l2), some (vI l3), l4] [vI (if i ≠ (-1 : Int) then (-1 : Int) else l2)] M Q := by
      exact r_iret dX10_countOrFind_66 rfl (h.1 c1)
    refine r_icmp_ne dX10_countOrFind_58 rfl (fun q3 => ?_) (fun q3 => ?_)
    · rw [if_pos q3] at K2
      refine r_iconst dX10_countOrFind_65 (by decide) ?_
      exact K2
    · rw [if_neg q3] at K2
      refine r_iload_n dX10_countOrFind_61 rfl ?_
      refine r_goto (tgt := 66) dX10_countOrFind_62 rfl ?_
      exact K2
  · refine r_iconst dX10_countOrFind_9 (by decide) ?_
    refine r_istore (ls2 := [some (vR 6), some (vI i), some (vI l2), some (vI l3), some (vI (0 : Int))]) dX10_countOrFind_10 (Nat.le_of_ble_eq_true rfl) rfl ?_
    exact (h.2 c1)
theorem vx_countOrFind_12 {e : Nat} {M : jM} {Q : Option jV → jM → Prop} {i : Int} {l2 : Int} {l3 : Int} {l4 : Int}  (he : 4 ≤ e) (hS : Shp M)
  (h : (((2 : Int) < l4) → (Run (e + 1) mX10_countOrFind 4 [some (vR 6), some (vI i), some (vI l2), some (vI (w32 (l3 + (1 : Int)))), some (vI l4)] [] M Q)) ∧ (¬ ((2 : Int) < l4) → (Call e mX10_isRest [vR 6, vI l3, vI l4] M (fun r9 M7 => ∃ z6 : Int, r9 = some (vI z6) ∧ Shp M7 ∧ (((z6 = (0 : Int)) → (Run (e + 1) mX10_countOrFind 12 [some (vR 6), some (vI i), some (vI l2), some (vI l3), some (vI (w32 (l4 + (1 : Int))))] [] M7 Q)) ∧ (¬ (z6 = (0 : Int)) → (((l2 ≠ i) → (Run (e + 1) mX10_countOrFind 12 [some (vR 6), some (vI i), some (vI (w32 (l2 + (1 : Int)))), some (vI l3), some (vI (w32 (l4 + (1 : Int))))] [] M7 Q)) ∧ (¬ (l2 ≠ i) → (Q (some (vI (w32 ((w32 ((10 : Int) * l3)) + l4)))) M7))))))))) :
  Run (e + 1) mX10_countOrFind 12 [some (vR 6), some (vI i), some (vI l2), some (vI l3), some (vI l4)] [] M Q := by
  refine r_iload dX10_countOrFind_12 rfl ?_
  refine r_iconst dX10_countOrFind_14 (by decide) ?_
  refine r_icmp_gt dX10_countOrFind_15 rfl (fun c5 => ?_) (fun c5 => ?_)
  · refine r_iinc (ls2 := [some (vR 6), some (vI i), some (vI l2), some (vI (w32 (l3 + (1 : Int)))), some (vI l4)]) dX10_countOrFind_50 rfl rfl ?_
    refine r_goto (tgt := 4) dX10_countOrFind_53 rfl ?_
    exact (h.1 c5)
  · refine r_aload_n dX10_countOrFind_18 rfl ?_
    refine r_iload_n dX10_countOrFind_19 rfl ?_
    refine r_iload dX10_countOrFind_20 rfl ?_
    refine r_invV_i dX10_countOrFind_22 kM10_422 (by decide) (Nat.le_of_ble_eq_true rfl) rfl rfl (Nat.le_of_ble_eq_true rfl) (Nat.le_of_ble_eq_true rfl) (sh_o hS kk6 (by decide)) (Call.mono (h.2 c5) (Nat.le_refl _) ?_)
    rintro _ M7 ⟨z6, rfl, s10, h8⟩
    refine ⟨_, rfl, ?_⟩
    refine r_if_eq dX10_countOrFind_25 rfl (fun c11 => ?_) (fun c11 => ?_)
    · refine r_iinc (ls2 := [some (vR 6), some (vI i), some (vI l2), some (vI l3), some (vI (w32 (l4 + (1 : Int))))]) dX10_countOrFind_44 rfl rfl ?_
      refine r_goto (tgt := 12) dX10_countOrFind_47 rfl ?_
      exact (h8.1 c11)
    · refine r_iload_n dX10_countOrFind_28 rfl ?_
      refine r_iload_n dX10_countOrFind_29 rfl ?_
      refine r_icmp_ne dX10_countOrFind_30 rfl (fun c12 => ?_) (fun c12 => ?_)
      · refine r_iinc (ls2 := [some (vR 6), some (vI i), some (vI (w32 (l2 + (1 : Int)))), some (vI l3), some (vI l4)]) dX10_countOrFind_41 rfl rfl ?_
        refine r_iinc (ls2 := [some (vR 6), some (vI i), some (vI (w32 (l2 + (1 : Int)))), some (vI l3), some (vI (w32 (l4 + (1 : Int))))]) dX10_countOrFind_44 rfl rfl ?_
        refine r_goto (tgt := 12) dX10_countOrFind_47 rfl ?_
        exact ((h8.2 c11).1 c12)
      · refine r_bipush dX10_countOrFind_33 (by decide) ?_
        refine r_iload_n dX10_countOrFind_35 rfl ?_
        refine r_imul dX10_countOrFind_36 ?_
        refine r_iload dX10_countOrFind_37 rfl ?_
        refine r_iadd dX10_countOrFind_39 ?_
        exact r_iret dX10_countOrFind_40 rfl ((h8.2 c11).2 c12)
theorem vx_areTwo {e : Nat} {M : jM} {Q : Option jV → jM → Prop} {p : Int} {q : Int} (he : 4 ≤ e) (hS : Shp M)
  (h : Q (some (vI (if (if 0 ≤ p ∧ p < iv M 29 0 then (1 : Int) else (0 : Int)) = (0 : Int) then (0 : Int) else (if (if 0 ≤ q ∧ q < iv M 29 0 then (1 : Int) else (0 : Int)) = (0 : Int) then (0 : Int) else (if p = q then (0 : Int) else (1 : Int)))))) M) :
  Call (e + 1) mX10_areTwo [vR 6, vI p, vI q] M Q := by
  show Run (e + 1) mX10_areTwo 0 [some (vR 6), some (vI p), some (vI q)] [] M Q
  refine r_aload_n dX10_areTwo_0 rfl ?_
  refine r_getS (v := 29) dX10_areTwo_1 kF10_50 (sh_o hS kk6 (by decide)) (sh_f hS rr6_9 (by decide)) ?_
  refine r_iload_n dX10_areTwo_4 rfl ?_
  refine r_invV_i dX10_areTwo_5 kM10_179 (by decide) (Nat.le_of_ble_eq_true rfl) rfl rfl (Nat.le_of_ble_eq_true rfl) (Nat.le_of_ble_eq_true rfl) (sh_o hS kk29 (by decide)) (i_has (by omega) hS ⟨_, rfl, ?_⟩)
  have K1 : Run (e + 1) mX10_areTwo 32 [some (vR 6), some (vI p), some (vI q)] [vI (if (if 0 ≤ p ∧ p < iv M 29 0 then (1 : Int) else (0 : Int)) = (0 : Int) then (0 : Int) else (if (if 0 ≤ q ∧ q < iv M 29 0 then (1 : Int) else (0 : Int)) = (0 : Int) then (0 : Int) else (if p = q then (0 : Int) else (1 : Int))))] M Q := by
    exact r_zret dX10_areTwo_32 rfl (by (repeat' split) <;> first | exact Or.inl rfl | exact Or.inr rfl) h
  refine r_if_eq dX10_areTwo_8 rfl (fun q2 => ?_) (fun q2 => ?_)
  · rw [if_pos q2] at K1
    refine r_iconst dX10_areTwo_31 (by decide) ?_
    exact K1
  · rw [if_neg q2] at K1
    refine r_aload_n dX10_areTwo_11 rfl ?_
    refine r_getS (v := 29) dX10_areTwo_12 kF10_50 (sh_o hS kk6 (by decide)) (sh_f hS rr6_9 (by decide)) ?_
    refine r_iload_n dX10_areTwo_15 rfl ?_
    refine r_invV_i dX10_areTwo_16 kM10_179 (by decide) (Nat.le_of_ble_eq_true rfl) rfl rfl (Nat.le_of_ble_eq_true rfl) (Nat.le_of_ble_eq_true rfl) (sh_o hS kk29 (by decide)) (i_has (by omega) hS ⟨_, rfl, ?_⟩)
    refine r_if_eq dX10_areTwo_19 rfl (fun q4 => ?_) (fun q4 => ?_)
    · rw [if_pos q4] at K1
      refine r_iconst dX10_areTwo_31 (by decide) ?_
      exact K1
    · rw [if_neg q4] at K1
      refine r_iload_n dX10_areTwo_22 rfl ?_
      refine r_iload_n dX10_areTwo_23 rfl ?_
      refine r_icmp_eq dX10_areTwo_24 rfl (fun q6 => ?_) (fun q6 => ?_)
      · rw [if_pos q6] at K1
        refine r_iconst dX10_areTwo_31 (by decide) ?_
        exact K1
      · rw [if_neg q6] at K1
        refine r_iconst dX10_areTwo_27 (by decide) ?_
        refine r_goto (tgt := 32) dX10_areTwo_28 rfl ?_
        exact K1
theorem vx_play {e : Nat} {M : jM} {Q : Option jV → jM → Prop} {p : Int} {q : Int} {x : Int} {y : Int} (he : 4 ≤ e) (hS : Shp M)
  (h : Call e mX7_copyMinds [vR 49, vR 33] M (fun r4 M2 => r4 = none ∧ Shp M2 ∧ (Call e mX10_move [vR 6, vI p, vI q, vI x] M2 (fun r9 M7 => r9 = none ∧ Shp M7 ∧ (Call e mX10_move [vR 6, vI q, vI p, vI y] M7 (fun r14 M12 => r14 = none ∧ Shp M12 ∧ (Call e mX1_weigh [vR 29, vR 49] M12 (fun r19 M17 => r19 = none ∧ Shp M17 ∧ (Q none M17))))))))) :
  Call (e + 1) mX10_play [vR 6, vI p, vI q, vI x, vI y] M Q := by
  show Run (e + 1) mX10_play 0 [some (vR 6), some (vI p), some (vI q), some (vI x), some (vI y)] [] M Q
  refine r_aload_n dX10_play_0 rfl ?_
  refine r_getS (v := 49) dX10_play_1 kF10_64 (sh_o hS kk6 (by decide)) (sh_f hS rr6_12 (by decide)) ?_
  refine r_aload_n dX10_play_4 rfl ?_
  refine r_getS (v := 33) dX10_play_5 kF10_57 (sh_o hS kk6 (by decide)) (sh_f hS rr6_10 (by decide)) ?_
  refine r_invV_v dX10_play_8 kM10_314 (by decide) (Nat.le_of_ble_eq_true rfl) rfl rfl (Nat.le_of_ble_eq_true rfl) (Nat.le_of_ble_eq_true rfl) (sh_o hS kk49 (by decide)) (Call.mono h (Nat.le_refl _) ?_)
  rintro _ M2 ⟨rfl, s5, h3⟩
  refine ⟨rfl, ?_⟩
  refine r_aload_n dX10_play_11 rfl ?_
  refine r_iload_n dX10_play_12 rfl ?_
  refine r_iload_n dX10_play_13 rfl ?_
  refine r_iload_n dX10_play_14 rfl ?_
  refine r_invV_v dX10_play_15 kM10_425 (by decide) (Nat.le_of_ble_eq_true rfl) rfl rfl (Nat.le_of_ble_eq_true rfl) (Nat.le_of_ble_eq_true rfl) (sh_o s5 kk6 (by decide)) (Call.mono h3 (Nat.le_refl _) ?_)
  rintro _ M7 ⟨rfl, s10, h8⟩
  refine ⟨rfl, ?_⟩
  refine r_aload_n dX10_play_18 rfl ?_
  refine r_iload_n dX10_play_19 rfl ?_
  refine r_iload_n dX10_play_20 rfl ?_
  refine r_iload dX10_play_21 rfl ?_
  refine r_invV_v dX10_play_23 kM10_425 (by decide) (Nat.le_of_ble_eq_true rfl) rfl rfl (Nat.le_of_ble_eq_true rfl) (Nat.le_of_ble_eq_true rfl) (sh_o s10 kk6 (by decide)) (Call.mono h8 (Nat.le_refl _) ?_)
  rintro _ M12 ⟨rfl, s15, h13⟩
  refine ⟨rfl, ?_⟩
  refine r_aload_n dX10_play_26 rfl ?_
  refine r_getS (v := 29) dX10_play_27 kF10_50 (sh_o s15 kk6 (by decide)) (sh_f s15 rr6_9 (by decide)) ?_
  refine r_aload_n dX10_play_30 rfl ?_
  refine r_getS (v := 49) dX10_play_31 kF10_64 (sh_o s15 kk6 (by decide)) (sh_f s15 rr6_12 (by decide)) ?_
  refine r_invV_v dX10_play_34 kM10_203 (by decide) (Nat.le_of_ble_eq_true rfl) rfl rfl (Nat.le_of_ble_eq_true rfl) (Nat.le_of_ble_eq_true rfl) (sh_o s15 kk29 (by decide)) (Call.mono h13 (Nat.le_refl _) ?_)
  rintro _ M17 ⟨rfl, s20, h18⟩
  refine ⟨rfl, ?_⟩
  exact r_vret dX10_play_37 rfl h18
theorem vx_move {e : Nat} {M : jM} {Q : Option jV → jM → Prop} {p : Int} {q : Int} {x : Int} (he : 4 ≤ e) (hS : Shp M)
  (h : ((x ≠ (1 : Int)) → (((x ≠ (2 : Int)) → (Q none M)) ∧ (¬ (x ≠ (2 : Int)) → (Call e mX7_giveUpAll [vR 49, vI p, vI q] M (fun r6 M4 => r6 = none ∧ Shp M4 ∧ (Q none M4)))))) ∧ (¬ (x ≠ (1 : Int)) → ((((fG (atv M 8 31 p) (0 : Int)) = (0 : Int)) → (((x ≠ (2 : Int)) → (Q none M)) ∧ (¬ (x ≠ (2 : Int)) → (Call e mX7_giveUpAll [vR 49, vI p, vI q] M (fun r13 M11 => r13 = none ∧ Shp M11 ∧ (Q none M11)))))) ∧ (¬ ((fG (atv M 8 31 p) (0 : Int)) = (0 : Int)) → (Call e mX7_emptyPlace [vR 49, vI p] M (fun r18 M16 => ∃ z15 : Int, r18 = some (vI z15) ∧ Shp M16 ∧ (Call e mX7_lay [vR 49, vI p, vI z15, vI q, vI (0 : Int), vI (9 : Int)] M16 (fun r23 M21 => r23 = none ∧ Shp M21 ∧ (Q none M21))))))))) :
  Call (e + 1) mX10_move [vR 6, vI p, vI q, vI x] M Q := by
  show Run (e + 1) mX10_move 0 [some (vR 6), some (vI p), some (vI q), some (vI x)] [] M Q
  refine r_iload_n dX10_move_0 rfl ?_
  refine r_iconst dX10_move_1 (by decide) ?_
  refine r_icmp_ne dX10_move_2 rfl (fun c1 => ?_) (fun c1 => ?_)
  · refine r_iload_n dX10_move_40 rfl ?_
    refine r_iconst dX10_move_41 (by decide) ?_
    refine r_icmp_ne dX10_move_42 rfl (fun c2 => ?_) (fun c2 => ?_)
    · exact r_vret dX10_move_54 rfl ((h.1 c1).1 c2)
    · refine r_aload_n dX10_move_45 rfl ?_
      refine r_getS (v := 49) dX10_move_46 kF10_64 (sh_o hS kk6 (by decide)) (sh_f hS rr6_12 (by decide)) ?_
      refine r_iload_n dX10_move_49 rfl ?_
      refine r_iload_n dX10_move_50 rfl ?_
      refine r_invV_v dX10_move_51 kM10_429 (by decide) (Nat.le_of_ble_eq_true rfl) rfl rfl (Nat.le_of_ble_eq_true rfl) (Nat.le_of_ble_eq_true rfl) (sh_o hS kk49 (by decide)) (Call.mono ((h.1 c1).2 c2) (Nat.le_refl _) ?_)
      rintro _ M4 ⟨rfl, s7, h5⟩
      refine ⟨rfl, ?_⟩
      exact r_vret dX10_move_54 rfl h5
  · refine r_aload_n dX10_move_5 rfl ?_
    refine r_getS (v := 29) dX10_move_6 kF10_50 (sh_o hS kk6 (by decide)) (sh_f hS rr6_9 (by decide)) ?_
    refine r_iload_n dX10_move_9 rfl ?_
    refine r_iconst dX10_move_10 (by decide) ?_
    refine r_invV_i dX10_move_11 kM10_241 (by decide) (Nat.le_of_ble_eq_true rfl) rfl rfl (Nat.le_of_ble_eq_true rfl) (Nat.le_of_ble_eq_true rfl) (sh_o hS kk29 (by decide)) (c_takes (by omega) hS ⟨_, rfl, ?_⟩)
    refine r_if_eq dX10_move_14 rfl (fun c8 => ?_) (fun c8 => ?_)
    · refine r_iload_n dX10_move_40 rfl ?_
      refine r_iconst dX10_move_41 (by decide) ?_
      refine r_icmp_ne dX10_move_42 rfl (fun c9 => ?_) (fun c9 => ?_)
      · exact r_vret dX10_move_54 rfl (((h.2 c1).1 c8).1 c9)
      · refine r_aload_n dX10_move_45 rfl ?_
        refine r_getS (v := 49) dX10_move_46 kF10_64 (sh_o hS kk6 (by decide)) (sh_f hS rr6_12 (by decide)) ?_
        refine r_iload_n dX10_move_49 rfl ?_
        refine r_iload_n dX10_move_50 rfl ?_
        refine r_invV_v dX10_move_51 kM10_429 (by decide) (Nat.le_of_ble_eq_true rfl) rfl rfl (Nat.le_of_ble_eq_true rfl) (Nat.le_of_ble_eq_true rfl) (sh_o hS kk49 (by decide)) (Call.mono (((h.2 c1).1 c8).2 c9) (Nat.le_refl _) ?_)
        rintro _ M11 ⟨rfl, s14, h12⟩
        refine ⟨rfl, ?_⟩
        exact r_vret dX10_move_54 rfl h12
    · refine r_aload_n dX10_move_17 rfl ?_
      refine r_getS (v := 49) dX10_move_18 kF10_64 (sh_o hS kk6 (by decide)) (sh_f hS rr6_12 (by decide)) ?_
      refine r_iload_n dX10_move_21 rfl ?_
      refine r_aload_n dX10_move_22 rfl ?_
      refine r_getS (v := 49) dX10_move_23 kF10_64 (sh_o hS kk6 (by decide)) (sh_f hS rr6_12 (by decide)) ?_
      refine r_iload_n dX10_move_26 rfl ?_
      refine r_invV_i dX10_move_27 kM10_271 (by decide) (Nat.le_of_ble_eq_true rfl) rfl rfl (Nat.le_of_ble_eq_true rfl) (Nat.le_of_ble_eq_true rfl) (sh_o hS kk49 (by decide)) (Call.mono ((h.2 c1).2 c8) (Nat.le_refl _) ?_)
      rintro _ M16 ⟨z15, rfl, s19, h17⟩
      refine ⟨_, rfl, ?_⟩
      refine r_iload_n dX10_move_30 rfl ?_
      refine r_iconst dX10_move_31 (by decide) ?_
      refine r_bipush dX10_move_32 (by decide) ?_
      refine r_invV_v dX10_move_34 kM10_274 (by decide) (Nat.le_of_ble_eq_true rfl) rfl rfl (Nat.le_of_ble_eq_true rfl) (Nat.le_of_ble_eq_true rfl) (sh_o s19 kk49 (by decide)) (Call.mono h17 (Nat.le_refl _) ?_)
      rintro _ M21 ⟨rfl, s24, h22⟩
      refine ⟨rfl, ?_⟩
      refine r_goto (tgt := 54) dX10_move_37 rfl ?_
      exact r_vret dX10_move_54 rfl h22
theorem vx_gainOf {e : Nat} {M : jM} {Q : Option jV → jM → Prop} {p : Int} {q : Int} (he : 4 ≤ e) (hS : Shp M)
  (h : Call e mX7_weight [vR 49, vI p] M (fun r4 M2 => ∃ z1 : Int, r4 = some (vL z1) ∧ Shp M2 ∧ ((0 < z1 ∧ z1 < 4611686018427387904) ∧ (Call e mX7_weight [vR 49, vI q] M2 (fun r10 M8 => ∃ z7 : Int, r10 = some (vL z7) ∧ Shp M8 ∧ ((0 < z7 ∧ z7 < 4611686018427387904) ∧ (Call e mX7_floats [vR 49, vI q] M8 (fun r16 M14 => ∃ z13 : Int, r16 = some (vI z13) ∧ Shp M14 ∧ (∀ v18 : Int, v18 = ((if z13 = (0 : Int) then w32 ((hft z1) - (hft z7)) else w32 ((w32 ((hft z1) - (hft z7))) + (2 : Int)))) → (Q (some (vI v18)) M14)))))))))) :
  Call (e + 1) mX10_gainOf [vR 6, vI p, vI q] M Q := by
  show Run (e + 1) mX10_gainOf 0 [some (vR 6), some (vI p), some (vI q), none] [] M Q
  refine r_aload_n dX10_gainOf_0 rfl ?_
  refine r_getS (v := 49) dX10_gainOf_1 kF10_64 (sh_o hS kk6 (by decide)) (sh_f hS rr6_12 (by decide)) ?_
  refine r_iload_n dX10_gainOf_4 rfl ?_
  refine r_invV_l dX10_gainOf_5 kM10_206 (by decide) (Nat.le_of_ble_eq_true rfl) rfl rfl (Nat.le_of_ble_eq_true rfl) (Nat.le_of_ble_eq_true rfl) (sh_o hS kk49 (by decide)) (Call.mono h (Nat.le_refl _) ?_)
  rintro _ M2 ⟨z1, rfl, s5, h3⟩
  refine ⟨_, rfl, ?_⟩
  have ob6 := h3.1
  refine r_invS_i dX10_gainOf_8 (by decide) kXn10_214 kM10_214 (by decide) (Nat.le_of_ble_eq_true rfl) rfl rfl (Nat.le_of_ble_eq_true rfl) (Nat.le_of_ble_eq_true rfl) (c_heftOf (by omega) ob6 ⟨_, rfl, ?_⟩)
  refine r_aload_n dX10_gainOf_11 rfl ?_
  refine r_getS (v := 49) dX10_gainOf_12 kF10_64 (sh_o s5 kk6 (by decide)) (sh_f s5 rr6_12 (by decide)) ?_
  refine r_iload_n dX10_gainOf_15 rfl ?_
  refine r_invV_l dX10_gainOf_16 kM10_206 (by decide) (Nat.le_of_ble_eq_true rfl) rfl rfl (Nat.le_of_ble_eq_true rfl) (Nat.le_of_ble_eq_true rfl) (sh_o s5 kk49 (by decide)) (Call.mono h3.2 (Nat.le_refl _) ?_)
  rintro _ M8 ⟨z7, rfl, s11, h9⟩
  refine ⟨_, rfl, ?_⟩
  have ob12 := h9.1
  refine r_invS_i dX10_gainOf_19 (by decide) kXn10_214 kM10_214 (by decide) (Nat.le_of_ble_eq_true rfl) rfl rfl (Nat.le_of_ble_eq_true rfl) (Nat.le_of_ble_eq_true rfl) (c_heftOf (by omega) ob12 ⟨_, rfl, ?_⟩)
  refine r_isub dX10_gainOf_22 ?_
  refine r_istore_n (ls2 := [some (vR 6), some (vI p), some (vI q), some (vI (w32 ((hft z1) - (hft z7))))]) dX10_gainOf_23 (Nat.le_of_ble_eq_true rfl) rfl ?_
  refine r_aload_n dX10_gainOf_24 rfl ?_
  refine r_getS (v := 49) dX10_gainOf_25 kF10_64 (sh_o s11 kk6 (by decide)) (sh_f s11 rr6_12 (by decide)) ?_
  refine r_iload_n dX10_gainOf_28 rfl ?_
  refine r_invV_i dX10_gainOf_29 kM10_317 (by decide) (Nat.le_of_ble_eq_true rfl) rfl rfl (Nat.le_of_ble_eq_true rfl) (Nat.le_of_ble_eq_true rfl) (sh_o s11 kk49 (by decide)) (Call.mono h9.2 (Nat.le_refl _) ?_)
  rintro _ M14 ⟨z13, rfl, s17, h15⟩
  refine ⟨_, rfl, ?_⟩
  have K19 : Run (e + 1) mX10_gainOf 42 [some (vR 6), some (vI p), some (vI q), some (vI (w32 ((hft z1) - (hft z7))))] [vI (if z13 = (0 : Int) then w32 ((hft z1) - (hft z7)) else w32 ((w32 ((hft z1) - (hft z7))) + (2 : Int)))] M14 Q := by
    have K21 : ∀ v18 : Int, v18 = ((if z13 = (0 : Int) then w32 ((hft z1) - (hft z7)) else w32 ((w32 ((hft z1) - (hft z7))) + (2 : Int)))) → Run (e + 1) mX10_gainOf 42 [some (vR 6), some (vI p), some (vI q), some (vI (w32 ((hft z1) - (hft z7))))] [vI v18] M14 Q := by
      intro v18 hv20
      exact r_iret dX10_gainOf_42 rfl (h15 v18 hv20)
    exact K21 _ rfl
  refine r_if_eq dX10_gainOf_32 rfl (fun q22 => ?_) (fun q22 => ?_)
  · rw [if_pos q22] at K19
    refine r_iload_n dX10_gainOf_41 rfl ?_
    exact K19
  · rw [if_neg q22] at K19
    refine r_iload_n dX10_gainOf_35 rfl ?_
    refine r_iconst dX10_gainOf_36 (by decide) ?_
    refine r_iadd dX10_gainOf_37 ?_
    refine r_goto (tgt := 42) dX10_gainOf_38 rfl ?_
    exact K19
theorem vx_isRest {e : Nat} {M : jM} {Q : Option jV → jM → Prop} {x : Int} {y : Int} (he : 4 ≤ e) (hS : Shp M)
  (h : Run (e + 1) mX10_isRest 2 [some (vR 6), some (vI x), some (vI y), some (vI (0 : Int))] [] M Q) :
  Call (e + 1) mX10_isRest [vR 6, vI x, vI y] M Q := by
  show Run (e + 1) mX10_isRest 0 [some (vR 6), some (vI x), some (vI y), none] [] M Q
  refine r_iconst dX10_isRest_0 (by decide) ?_
  refine r_istore_n (ls2 := [some (vR 6), some (vI x), some (vI y), some (vI (0 : Int))]) dX10_isRest_1 (Nat.le_of_ble_eq_true rfl) rfl ?_
  exact h
theorem vx_isRest_2 {e : Nat} {M : jM} {Q : Option jV → jM → Prop} {x : Int} {y : Int} {l3 : Int}  (he : 4 ≤ e) (hS : Shp M)
  (h : (((2 : Int) < l3) → (Q (some (vI (1 : Int))) M)) ∧ (¬ ((2 : Int) < l3) → ((((atv M 18 467 (w32 ((w32 ((6 : Int) * l3)) + (w32 ((2 : Int) * y))))) ≤ (atv M 18 467 (w32 ((w32 ((6 : Int) * x)) + (w32 ((2 : Int) * y)))))) → (∀ v3 : Int, v3 = (w32 ((w32 ((w32 ((6 : Int) * x)) + (w32 ((2 : Int) * l3)))) + (1 : Int))) → (∀ v4 : Int, v4 = (w32 ((w32 ((w32 ((6 : Int) * x)) + (w32 ((2 : Int) * y)))) + (1 : Int))) → ((((atv M 18 467 v3) ≤ (atv M 18 467 v4)) → (Run (e + 1) mX10_isRest 2 [some (vR 6), some (vI x), some (vI y), some (vI (w32 (l3 + (1 : Int))))] [] M Q)) ∧ (¬ ((atv M 18 467 v3) ≤ (atv M 18 467 v4)) → (Q (some (vI (0 : Int))) M)))))) ∧ (¬ ((atv M 18 467 (w32 ((w32 ((6 : Int) * l3)) + (w32 ((2 : Int) * y))))) ≤ (atv M 18 467 (w32 ((w32 ((6 : Int) * x)) + (w32 ((2 : Int) * y)))))) → (Q (some (vI (0 : Int))) M))))) :
  Run (e + 1) mX10_isRest 2 [some (vR 6), some (vI x), some (vI y), some (vI l3)] [] M Q := by
  refine r_iload_n dX10_isRest_2 rfl ?_
  refine r_iconst dX10_isRest_3 (by decide) ?_
  refine r_icmp_gt dX10_isRest_4 rfl (fun c1 => ?_) (fun c1 => ?_)
  · refine r_iconst dX10_isRest_87 (by decide) ?_
    exact r_zret dX10_isRest_88 rfl (by decide) (h.1 c1)
  · refine r_aload_n dX10_isRest_7 rfl ?_
    refine r_getS (v := 467) dX10_isRest_8 kF10_98 (sh_o hS kk6 (by decide)) (sh_f hS rr6_19 (by decide)) ?_
    refine r_bipush dX10_isRest_11 (by decide) ?_
    refine r_iload_n dX10_isRest_13 rfl ?_
    refine r_imul dX10_isRest_14 ?_
    refine r_iconst dX10_isRest_15 (by decide) ?_
    refine r_iload_n dX10_isRest_16 rfl ?_
    refine r_imul dX10_isRest_17 ?_
    refine r_iadd dX10_isRest_18 ?_
    refine r_invS_i dX10_isRest_19 (by decide) kXn10_193 kM10_193 (by decide) (Nat.le_of_ble_eq_true rfl) rfl rfl (Nat.le_of_ble_eq_true rfl) (Nat.le_of_ble_eq_true rfl) (c_at (by omega) (sh_r hS kk467 (by decide)) ⟨_, rfl, ?_⟩)
    refine r_aload_n dX10_isRest_22 rfl ?_
    refine r_getS (v := 467) dX10_isRest_23 kF10_98 (sh_o hS kk6 (by decide)) (sh_f hS rr6_19 (by decide)) ?_
    refine r_bipush dX10_isRest_26 (by decide) ?_
    refine r_iload_n dX10_isRest_28 rfl ?_
    refine r_imul dX10_isRest_29 ?_
    refine r_iconst dX10_isRest_30 (by decide) ?_
    refine r_iload_n dX10_isRest_31 rfl ?_
    refine r_imul dX10_isRest_32 ?_
    refine r_iadd dX10_isRest_33 ?_
    refine r_invS_i dX10_isRest_34 (by decide) kXn10_193 kM10_193 (by decide) (Nat.le_of_ble_eq_true rfl) rfl rfl (Nat.le_of_ble_eq_true rfl) (Nat.le_of_ble_eq_true rfl) (c_at (by omega) (sh_r hS kk467 (by decide)) ⟨_, rfl, ?_⟩)
    refine r_icmp_le dX10_isRest_37 rfl (fun c2 => ?_) (fun c2 => ?_)
    · refine r_aload_n dX10_isRest_42 rfl ?_
      refine r_getS (v := 467) dX10_isRest_43 kF10_98 (sh_o hS kk6 (by decide)) (sh_f hS rr6_19 (by decide)) ?_
      refine r_bipush dX10_isRest_46 (by decide) ?_
      refine r_iload_n dX10_isRest_48 rfl ?_
      refine r_imul dX10_isRest_49 ?_
      refine r_iconst dX10_isRest_50 (by decide) ?_
      refine r_iload_n dX10_isRest_51 rfl ?_
      refine r_imul dX10_isRest_52 ?_
      refine r_iadd dX10_isRest_53 ?_
      refine r_iconst dX10_isRest_54 (by decide) ?_
      refine r_iadd dX10_isRest_55 ?_
      have K7 : ∀ v3 : Int, v3 = (w32 ((w32 ((w32 ((6 : Int) * x)) + (w32 ((2 : Int) * l3)))) + (1 : Int))) → Run (e + 1) mX10_isRest 56 [some (vR 6), some (vI x), some (vI y), some (vI l3)] [vI v3, vR 467] M Q := by
        intro v3 hv6
        refine r_invS_i dX10_isRest_56 (by decide) kXn10_193 kM10_193 (by decide) (Nat.le_of_ble_eq_true rfl) rfl rfl (Nat.le_of_ble_eq_true rfl) (Nat.le_of_ble_eq_true rfl) (c_at (by omega) (sh_r hS kk467 (by decide)) ⟨_, rfl, ?_⟩)
        refine r_aload_n dX10_isRest_59 rfl ?_
        refine r_getS (v := 467) dX10_isRest_60 kF10_98 (sh_o hS kk6 (by decide)) (sh_f hS rr6_19 (by decide)) ?_
        refine r_bipush dX10_isRest_63 (by decide) ?_
        refine r_iload_n dX10_isRest_65 rfl ?_
        refine r_imul dX10_isRest_66 ?_
        refine r_iconst dX10_isRest_67 (by decide) ?_
        refine r_iload_n dX10_isRest_68 rfl ?_
        refine r_imul dX10_isRest_69 ?_
        refine r_iadd dX10_isRest_70 ?_
        refine r_iconst dX10_isRest_71 (by decide) ?_
        refine r_iadd dX10_isRest_72 ?_
        have K9 : ∀ v4 : Int, v4 = (w32 ((w32 ((w32 ((6 : Int) * x)) + (w32 ((2 : Int) * y)))) + (1 : Int))) → Run (e + 1) mX10_isRest 73 [some (vR 6), some (vI x), some (vI y), some (vI l3)] [vI v4, vR 467, vI (atv M 18 467 v3)] M Q := by
          intro v4 hv8
          refine r_invS_i dX10_isRest_73 (by decide) kXn10_193 kM10_193 (by decide) (Nat.le_of_ble_eq_true rfl) rfl rfl (Nat.le_of_ble_eq_true rfl) (Nat.le_of_ble_eq_true rfl) (c_at (by omega) (sh_r hS kk467 (by decide)) ⟨_, rfl, ?_⟩)
          refine r_icmp_le dX10_isRest_76 rfl (fun c5 => ?_) (fun c5 => ?_)
          · refine r_iinc (ls2 := [some (vR 6), some (vI x), some (vI y), some (vI (w32 (l3 + (1 : Int))))]) dX10_isRest_81 rfl rfl ?_
            refine r_goto (tgt := 2) dX10_isRest_84 rfl ?_
            exact (((((h.2 c1).1 c2) v3 hv6) v4 hv8).1 c5)
          · refine r_iconst dX10_isRest_79 (by decide) ?_
            exact r_zret dX10_isRest_80 rfl (by decide) (((((h.2 c1).1 c2) v3 hv6) v4 hv8).2 c5)
        exact K9 _ rfl
      exact K7 _ rfl
    · refine r_iconst dX10_isRest_40 (by decide) ?_
      exact r_zret dX10_isRest_41 rfl (by decide) ((h.2 c1).2 c2)
