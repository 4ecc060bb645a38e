theorem vx_person {e : Nat} {M : jM} {Q : Option jV → jM → Prop} {p : Int} {w : Int} (he : 5 ≤ e) (hS : Shp M)
  (h : (((if 0 ≤ p ∧ p < iv M 29 0 then (1 : Int) else (0 : Int)) = (0 : Int)) → (Run (e + 1) mX10_person 20 [some (vR 6), some (vI p), some (vI w), none, none] [] M Q)) ∧ (¬ ((if 0 ≤ p ∧ p < iv M 29 0 then (1 : Int) else (0 : Int)) = (0 : Int)) → (((w < (0 : Int)) → (Run (e + 1) mX10_person 20 [some (vR 6), some (vI p), some (vI w), none, none] [] M Q)) ∧ (¬ (w < (0 : Int)) → (((w ≤ (5 : Int)) → ((w = 0 → (Q (some (vI (atv M 8 39 p))) M)) ∧ (w = 1 → (Q (some (vI (atv M 8 30 p))) M)) ∧ (w = 2 → (Q (some (vI (atv M 8 31 p))) M)) ∧ ((w < 0 ∨ 2 < w) → (Call e mX1_weigh [vR 29, vR 33] M (fun r8 M6 => r8 = none ∧ Shp M6 ∧ (Call e mX7_weight [vR 33, vI p] M6 (fun r13 M11 => ∃ z10 : Int, r13 = some (vL z10) ∧ Shp M11 ∧ (((w ≠ (3 : Int)) → (((w ≠ (4 : Int)) → ((0 < z10 ∧ z10 < 4611686018427387904) ∧ (Q (some (vI (grF z10))) M11))) ∧ (¬ (w ≠ (4 : Int)) → ((0 < z10 ∧ z10 < 4611686018427387904) ∧ (Q (some (vI (hft z10))) M11))))) ∧ (¬ (w ≠ (3 : Int)) → (Q (some (vI (fT z10))) M11)))))))))) ∧ (¬ (w ≤ (5 : Int)) → (Run (e + 1) mX10_person 20 [some (vR 6), some (vI p), some (vI w), none, none] [] M Q))))))) :
  Call (e + 1) mX10_person [vR 6, vI p, vI w] M Q := by
  show Run (e + 1) mX10_person 0 [some (vR 6), some (vI p), some (vI w), none, none] [] M Q
  refine r_aload_n dX10_person_0 rfl ?_
  refine r_getS (v := 29) dX10_person_1 kF10_50 (sh_o hS kk6 (by decide)) (sh_f hS rr6_9 (by decide)) ?_
  refine r_iload_n dX10_person_4 rfl ?_
  refine r_invV_i dX10_person_5 kM10_179 (by decide) (Nat.le_of_ble_eq_true rfl) rfl rfl (Nat.le_of_ble_eq_true rfl) (Nat.le_of_ble_eq_true rfl) (sh_o hS kk29 (by decide)) (i_has (by omega) hS ⟨_, rfl, ?_⟩)
  refine r_if_eq dX10_person_8 rfl (fun c1 => ?_) (fun c1 => ?_)
  · exact (h.1 c1)
  · refine r_iload_n dX10_person_11 rfl ?_
    refine r_if_lt dX10_person_12 rfl (fun c2 => ?_) (fun c2 => ?_)
    · exact ((h.2 c1).1 c2)
    · refine r_iload_n dX10_person_15 rfl ?_
      refine r_iconst dX10_person_16 (by decide) ?_
      refine r_icmp_le dX10_person_17 rfl (fun c3 => ?_) (fun c3 => ?_)
      · refine r_iload_n dX10_person_30 rfl ?_
        by_cases c4 : w < 0 ∨ 2 < w
        · refine r_tab_out (tgt := 92) dX10_person_31 c4 rfl ?_
          refine r_aload_n dX10_person_92 rfl ?_
          refine r_getS (v := 29) dX10_person_93 kF10_50 (sh_o hS kk6 (by decide)) (sh_f hS rr6_9 (by decide)) ?_
          refine r_aload_n dX10_person_96 rfl ?_
          refine r_getS (v := 33) dX10_person_97 kF10_57 (sh_o hS kk6 (by decide)) (sh_f hS rr6_10 (by decide)) ?_
          refine r_invV_v dX10_person_100 kM10_203 (by decide) (Nat.le_of_ble_eq_true rfl) rfl rfl (Nat.le_of_ble_eq_true rfl) (Nat.le_of_ble_eq_true rfl) (sh_o hS kk29 (by decide)) (Call.mono ((((h.2 c1).2 c2).1 c3).2.2.2 c4) (Nat.le_refl _) ?_)
          rintro _ M6 ⟨rfl, s9, h7⟩
          refine ⟨rfl, ?_⟩
          refine r_aload_n dX10_person_103 rfl ?_
          refine r_getS (v := 33) dX10_person_104 kF10_57 (sh_o s9 kk6 (by decide)) (sh_f s9 rr6_10 (by decide)) ?_
          refine r_iload_n dX10_person_107 rfl ?_
          refine r_invV_l dX10_person_108 kM10_206 (by decide) (Nat.le_of_ble_eq_true rfl) rfl rfl (Nat.le_of_ble_eq_true rfl) (Nat.le_of_ble_eq_true rfl) (sh_o s9 kk33 (by decide)) (Call.mono h7 (Nat.le_refl _) ?_)
          rintro _ M11 ⟨z10, rfl, s14, h12⟩
          refine ⟨_, rfl, ?_⟩
          refine r_lstore_n (ls2 := [some (vR 6), some (vI p), some (vI w), some (vL z10), none]) dX10_person_111 (Nat.le_of_ble_eq_true rfl) rfl ?_
          refine r_iload_n dX10_person_112 rfl ?_
          refine r_iconst dX10_person_113 (by decide) ?_
          refine r_icmp_ne dX10_person_114 rfl (fun c15 => ?_) (fun c15 => ?_)
          · refine r_iload_n dX10_person_124 rfl ?_
            refine r_iconst dX10_person_125 (by decide) ?_
            refine r_icmp_ne dX10_person_126 rfl (fun c16 => ?_) (fun c16 => ?_)
            · refine r_lload_n dX10_person_136 rfl ?_
              have ob17 := ((h12.1 c15).1 c16).1
              refine r_invS_i dX10_person_137 (by decide) kXn10_217 kM10_217 (by decide) (Nat.le_of_ble_eq_true rfl) rfl rfl (Nat.le_of_ble_eq_true rfl) (Nat.le_of_ble_eq_true rfl) (c_grainOf (by omega) s14 ob17 ⟨_, rfl, ?_⟩)
              exact r_iret dX10_person_140 rfl ((h12.1 c15).1 c16).2
            · refine r_lload_n dX10_person_129 rfl ?_
              have ob18 := ((h12.1 c15).2 c16).1
              refine r_invS_i dX10_person_130 (by decide) kXn10_214 kM10_214 (by decide) (Nat.le_of_ble_eq_true rfl) rfl rfl (Nat.le_of_ble_eq_true rfl) (Nat.le_of_ble_eq_true rfl) (c_heftOf (by omega) ob18 ⟨_, rfl, ?_⟩)
              refine r_goto (tgt := 140) dX10_person_133 rfl ?_
              exact r_iret dX10_person_140 rfl ((h12.1 c15).2 c16).2
          · refine r_lload_n dX10_person_117 rfl ?_
            refine r_invS_i dX10_person_118 (by decide) kXn10_210 kM10_210 (by decide) (Nat.le_of_ble_eq_true rfl) rfl rfl (Nat.le_of_ble_eq_true rfl) (Nat.le_of_ble_eq_true rfl) (c_asTold (by omega) s14 ⟨_, rfl, ?_⟩)
            refine r_goto (tgt := 140) dX10_person_121 rfl ?_
            exact r_iret dX10_person_140 rfl (h12.2 c15)
        · rcases (show w = 0 ∨ w = 1 ∨ w = 2 by omega) with c4e | c4e | c4e
          · refine r_tab_eq (tgt := 56) dX10_person_31 c4e (by decide) rfl rfl ?_
            refine r_aload_n dX10_person_56 rfl ?_
            refine r_getS (v := 33) dX10_person_57 kF10_57 (sh_o hS kk6 (by decide)) (sh_f hS rr6_10 (by decide)) ?_
            refine r_getS (v := 39) dX10_person_60 kF10_190 (sh_o hS kk33 (by decide)) (st_f5 hS (by decide)) ?_
            refine r_iload_n dX10_person_63 rfl ?_
            refine r_invS_i dX10_person_64 (by decide) kXn10_193 kM10_193 (by decide) (Nat.le_of_ble_eq_true rfl) rfl rfl (Nat.le_of_ble_eq_true rfl) (Nat.le_of_ble_eq_true rfl) (c_at (by omega) (sh_r hS kk39 (by decide)) ⟨_, rfl, ?_⟩)
            exact r_iret dX10_person_67 rfl ((((h.2 c1).2 c2).1 c3).1 c4e)
          · refine r_tab_eq (tgt := 68) dX10_person_31 c4e (by decide) rfl rfl ?_
            refine r_aload_n dX10_person_68 rfl ?_
            refine r_getS (v := 29) dX10_person_69 kF10_50 (sh_o hS kk6 (by decide)) (sh_f hS rr6_9 (by decide)) ?_
            refine r_getS (v := 30) dX10_person_72 kF10_197 (sh_o hS kk29 (by decide)) (sh_f hS rr29_3 (by decide)) ?_
            refine r_iload_n dX10_person_75 rfl ?_
            refine r_invS_i dX10_person_76 (by decide) kXn10_193 kM10_193 (by decide) (Nat.le_of_ble_eq_true rfl) rfl rfl (Nat.le_of_ble_eq_true rfl) (Nat.le_of_ble_eq_true rfl) (c_at (by omega) (sh_r hS kk30 (by decide)) ⟨_, rfl, ?_⟩)
            exact r_iret dX10_person_79 rfl ((((h.2 c1).2 c2).1 c3).2.1 c4e)
          · refine r_tab_eq (tgt := 80) dX10_person_31 c4e (by decide) rfl rfl ?_
            refine r_aload_n dX10_person_80 rfl ?_
            refine r_getS (v := 29) dX10_person_81 kF10_50 (sh_o hS kk6 (by decide)) (sh_f hS rr6_9 (by decide)) ?_
            refine r_getS (v := 31) dX10_person_84 kF10_200 (sh_o hS kk29 (by decide)) (sh_f hS rr29_4 (by decide)) ?_
            refine r_iload_n dX10_person_87 rfl ?_
            refine r_invS_i dX10_person_88 (by decide) kXn10_193 kM10_193 (by decide) (Nat.le_of_ble_eq_true rfl) rfl rfl (Nat.le_of_ble_eq_true rfl) (Nat.le_of_ble_eq_true rfl) (c_at (by omega) (sh_r hS kk31 (by decide)) ⟨_, rfl, ?_⟩)
            exact r_iret dX10_person_91 rfl ((((h.2 c1).2 c2).1 c3).2.2.1 c4e)
      · exact (((h.2 c1).2 c2).2 c3)
