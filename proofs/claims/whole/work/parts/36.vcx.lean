theorem c_takes {d : Nat} {M : jM} {Q : Option jV → jM → Prop} {p k : Int} (hd : 2 ≤ d) (hS : Shp M) (h : Q (some (vI (fG (atv M 8 31 p) k))) M) : Call d mX1_takes [vR 29, vI p, vI k] M Q := by
  obtain ⟨e, rfl⟩ := dd (d := d) (by omega)
  refine vi_takes (by omega) hS ?_
  exact ⟨by unfold fG; split <;> simp, h⟩
theorem vx_hasIsland {e : Nat} {M : jM} {Q : Option jV → jM → Prop}  (he : 1 ≤ e) (hS : Shp M)
  (h : Q (some (vI (if (iv M 29 0) ≤ (0 : Int) then (0 : Int) else (1 : Int)))) M) :
  Call (e + 1) mX10_hasIsland [vR 6] M Q := by
  show Run (e + 1) mX10_hasIsland 0 [some (vR 6)] [] M Q
  refine r_aload_n dX10_hasIsland_0 rfl ?_
  refine r_getS (v := 29) dX10_hasIsland_1 kF10_50 (sh_o hS rfl (by decide)) (sh_f hS rfl (by decide)) ?_
  refine r_get0 dX10_hasIsland_4 kF10_146 (sh_o hS rfl (by decide)) ?_
  have K1 : Run (e + 1) mX10_hasIsland 15 [some (vR 6)] [vI (if (iv M 29 0) ≤ (0 : Int) then (0 : Int) else (1 : Int))] M Q := by
    exact r_zret dX10_hasIsland_15 rfl (by (repeat' split) <;> first | exact Or.inl rfl | exact Or.inr rfl) h
  refine r_if_le dX10_hasIsland_7 rfl (fun q2 => ?_) (fun q2 => ?_)
  · rw [if_pos q2] at K1
    refine r_iconst dX10_hasIsland_14 (by decide) ?_
    exact K1
  · rw [if_neg q2] at K1
    refine r_iconst dX10_hasIsland_10 (by decide) ?_
    refine r_goto (tgt := 15) dX10_hasIsland_11 rfl ?_
    exact K1
theorem c_hasIsland {d : Nat} {M : jM} {Q : Option jV → jM → Prop} (hd : 2 ≤ d) (hS : Shp M) (h : Q (some (vI (if 0 < iv M 29 0 then (1 : Int) else (0 : Int)))) M) : Call d mX10_hasIsland [vR 6] M Q := by
  obtain ⟨e, rfl⟩ := dd (d := d) (by omega)
  refine vx_hasIsland (by omega) hS ?_
  refine (congrArg (fun z => Q (some (vI z)) M) ?_).mp h
  split <;> split <;> first | rfl | omega
theorem vx_refuse {e : Nat} {M : jM} {Q : Option jV → jM → Prop} {w : Int} (he : 1 ≤ e) (hS : Shp M)
  (h : Q (some (vI (-1 : Int))) (ptv M 5 28 w (w32 ((atv M 5 28 w) + (1 : Int))))) :
  Call (e + 1) mX10_refuse [vR 6, vI w] M Q := by
  show Run (e + 1) mX10_refuse 0 [some (vR 6), some (vI w)] [] M Q
  refine r_aload_n dX10_refuse_0 rfl ?_
  refine r_getS (v := 28) dX10_refuse_1 kF10_43 (sh_o hS rfl (by decide)) (sh_f hS rfl (by decide)) ?_
  refine r_iload_n dX10_refuse_4 rfl ?_
  refine r_aload_n dX10_refuse_5 rfl ?_
  refine r_getS (v := 28) dX10_refuse_6 kF10_43 (sh_o hS rfl (by decide)) (sh_f hS rfl (by decide)) ?_
  refine r_iload_n dX10_refuse_9 rfl ?_
  refine r_invS_i dX10_refuse_10 (by decide) kXn10_193 kM10_193 (by decide) (Nat.le_of_ble_eq_true rfl) rfl rfl (Nat.le_of_ble_eq_true rfl) (Nat.le_of_ble_eq_true rfl) (c_at (by omega) (sh_r hS rfl (by decide)) ⟨_, rfl, ?_⟩)
  refine r_iconst dX10_refuse_13 (by decide) ?_
  refine r_iadd dX10_refuse_14 ?_
  refine r_invS_v dX10_refuse_15 (by decide) kXn10_278 kM10_278 (by decide) (Nat.le_of_ble_eq_true rfl) rfl rfl (Nat.le_of_ble_eq_true rfl) (Nat.le_of_ble_eq_true rfl) (c_put (by omega) (sh_r hS rfl (by decide)) (by decide) ⟨rfl, ?_⟩)
  refine r_iconst dX10_refuse_18 (by decide) ?_
  exact r_iret dX10_refuse_19 rfl h
theorem c_refuse {d : Nat} {M : jM} {Q : Option jV → jM → Prop} {w : Int} (hd : 2 ≤ d) (hS : Shp M) (h : Q (some (vI (-1))) (ptv M 5 28 w (w32 (atv M 5 28 w + 1)))) : Call d mX10_refuse [vR 6, vI w] M Q := by
  obtain ⟨e, rfl⟩ := dd (d := d) (by omega)
  exact vx_refuse (by omega) hS h
theorem vx_memory {e : Nat} {M : jM} {Q : Option jV → jM → Prop} {v : Int} (he : 4 ≤ e) (hS : Shp M)
  (h : ((v < (0 : Int)) → (Q (some (vI (0 : Int))) M)) ∧ (¬ (v < (0 : Int)) → ((((9 : Int) < v) → (Q (some (vI (0 : Int))) M)) ∧ (¬ ((9 : Int) < v) → (((v ≠ (iv M 6 6)) → (Q (some (vI (1 : Int))) (si M 6 6 v))) ∧ (¬ (v ≠ (iv M 6 6)) → (Q (some (vI (0 : Int))) M))))))) :
  Call (e + 1) mX10_memory [vR 6, vI v] M Q := by
  show Run (e + 1) mX10_memory 0 [some (vR 6), some (vI v)] [] M Q
  refine r_iload_n dX10_memory_0 rfl ?_
  refine r_if_lt dX10_memory_1 rfl (fun c1 => ?_) (fun c1 => ?_)
  · refine r_iconst dX10_memory_18 (by decide) ?_
    exact r_zret dX10_memory_19 rfl (by decide) (h.1 c1)
  · refine r_iload_n dX10_memory_4 rfl ?_
    refine r_bipush dX10_memory_5 (by decide) ?_
    refine r_icmp_gt dX10_memory_7 rfl (fun c2 => ?_) (fun c2 => ?_)
    · refine r_iconst dX10_memory_18 (by decide) ?_
      exact r_zret dX10_memory_19 rfl (by decide) ((h.2 c1).1 c2)
    · refine r_iload_n dX10_memory_10 rfl ?_
      refine r_aload_n dX10_memory_11 rfl ?_
      refine r_get0 dX10_memory_12 kF10_40 (sh_o hS rfl (by decide)) ?_
      refine r_icmp_ne dX10_memory_15 rfl (fun c3 => ?_) (fun c3 => ?_)
      · refine r_aload_n dX10_memory_20 rfl ?_
        refine r_iload_n dX10_memory_21 rfl ?_
        refine r_put0 dX10_memory_22 kF10_40 (sh_o hS rfl (by decide)) (Or.inl rfl) ?_
        refine r_iconst dX10_memory_25 (by decide) ?_
        exact r_zret dX10_memory_26 rfl (by decide) (((h.2 c1).2 c2).1 c3)
      · refine r_iconst dX10_memory_18 (by decide) ?_
        exact r_zret dX10_memory_19 rfl (by decide) (((h.2 c1).2 c2).2 c3)
theorem vx_rule {e : Nat} {M : jM} {Q : Option jV → jM → Prop} {w : Int} (he : 4 ≤ e) (hS : Shp M)
  (h : (((if 0 < iv M 29 0 then (1 : Int) else (0 : Int)) ≠ (0 : Int)) → ((w = 0 → (Q (some (vI (iv M 33 7))) M)) ∧ (w = 1 → (Q (some (vI (iv M 29 1))) M)) ∧ (w = 2 → (Q (some (vI (iv M 29 2))) M)) ∧ (w = 3 → (Q (some (vI (iv M 33 8))) M)) ∧ ((w < 0 ∨ 3 < w) → (Q (some (vI (-1 : Int))) M)))) ∧ (¬ ((if 0 < iv M 29 0 then (1 : Int) else (0 : Int)) ≠ (0 : Int)) → (Q (some (vI (-1 : Int))) M))) :
  Call (e + 1) mX10_rule [vR 6, vI w] M Q := by
  show Run (e + 1) mX10_rule 0 [some (vR 6), some (vI w)] [] M Q
  refine r_aload_n dX10_rule_0 rfl ?_
  refine r_invV_i dX10_rule_1 kM10_164 (by decide) (Nat.le_of_ble_eq_true rfl) rfl rfl (Nat.le_of_ble_eq_true rfl) (Nat.le_of_ble_eq_true rfl) (sh_o hS rfl (by decide)) (c_hasIsland (by omega) hS ⟨_, rfl, ?_⟩)
  refine r_if_ne dX10_rule_4 rfl (fun c1 => ?_) (fun c1 => ?_)
  · refine r_iload_n dX10_rule_9 rfl ?_
    by_cases c2 : w < 0 ∨ 3 < w
    · refine r_tab_out (tgt := 72) dX10_rule_10 c2 rfl ?_
      refine r_iconst dX10_rule_72 (by decide) ?_
      exact r_iret dX10_rule_73 rfl ((h.1 c1).2.2.2.2 c2)
    · rcases (show w = 0 ∨ w = 1 ∨ w = 2 ∨ w = 3 by omega) with c2e | c2e | c2e | c2e
      · refine r_tab_eq (tgt := 40) dX10_rule_10 c2e (by decide) rfl rfl ?_
        refine r_aload_n dX10_rule_40 rfl ?_
        refine r_getS (v := 33) dX10_rule_41 kF10_57 (sh_o hS rfl (by decide)) (sh_f hS rfl (by decide)) ?_
        refine r_get0 dX10_rule_44 kF10_168 (sh_o hS rfl (by decide)) ?_
        exact r_iret dX10_rule_47 rfl ((h.1 c1).1 c2e)
      · refine r_tab_eq (tgt := 48) dX10_rule_10 c2e (by decide) rfl rfl ?_
        refine r_aload_n dX10_rule_48 rfl ?_
        refine r_getS (v := 29) dX10_rule_49 kF10_50 (sh_o hS rfl (by decide)) (sh_f hS rfl (by decide)) ?_
        refine r_get0 dX10_rule_52 kF10_171 (sh_o hS rfl (by decide)) ?_
        exact r_iret dX10_rule_55 rfl ((h.1 c1).2.1 c2e)
      · refine r_tab_eq (tgt := 56) dX10_rule_10 c2e (by decide) rfl rfl ?_
        refine r_aload_n dX10_rule_56 rfl ?_
        refine r_getS (v := 29) dX10_rule_57 kF10_50 (sh_o hS rfl (by decide)) (sh_f hS rfl (by decide)) ?_
        refine r_get0 dX10_rule_60 kF10_174 (sh_o hS rfl (by decide)) ?_
        exact r_iret dX10_rule_63 rfl ((h.1 c1).2.2.1 c2e)
      · refine r_tab_eq (tgt := 64) dX10_rule_10 c2e (by decide) rfl rfl ?_
        refine r_aload_n dX10_rule_64 rfl ?_
        refine r_getS (v := 33) dX10_rule_65 kF10_57 (sh_o hS rfl (by decide)) (sh_f hS rfl (by decide)) ?_
        refine r_get0 dX10_rule_68 kF10_176 (sh_o hS rfl (by decide)) ?_
        exact r_iret dX10_rule_71 rfl ((h.1 c1).2.2.2.1 c2e)
  · refine r_iconst dX10_rule_7 (by decide) ?_
    exact r_iret dX10_rule_8 rfl (h.2 c1)
theorem vx_thought {e : Nat} {M : jM} {Q : Option jV → jM → Prop} {p : Int} {pl : Int} {w : Int} (he : 4 ≤ e) (hS : Shp M)
  (h : (((if 0 ≤ p ∧ p < iv M 29 0 then (1 : Int) else (0 : Int)) = (0 : Int)) → (Q (some (vI (-1 : Int))) M)) ∧ (¬ ((if 0 ≤ p ∧ p < iv M 29 0 then (1 : Int) else (0 : Int)) = (0 : Int)) → ((((fP pl) ≠ (0 : Int)) → ((((atv M 32 34 (w32 ((w32 (p * (4 : Int))) + pl))) ≠ (-1 : Int)) → ((w = 0 → (Q (some (vI (atv M 32 34 (w32 ((w32 (p * (4 : Int))) + pl))))) M)) ∧ (w = 1 → (Q (some (vI (atv M 32 35 (w32 ((w32 (p * (4 : Int))) + pl))))) M)) ∧ (w = 2 → (Q (some (vI (atv M 32 36 (w32 ((w32 (p * (4 : Int))) + pl))))) M)) ∧ (w = 3 → (Q (some (vI (atv M 32 37 (w32 ((w32 (p * (4 : Int))) + pl))))) M)) ∧ (w = 4 → (Call e mX1_weigh [vR 29, vR 33] M (fun r8 M6 => r8 = none ∧ Shp M6 ∧ (Q (some (vI (atv M6 32 38 (w32 ((w32 (p * (4 : Int))) + pl))))) M6)))) ∧ ((w < 0 ∨ 4 < w) → (Q (some (vI (-1 : Int))) M)))) ∧ (¬ ((atv M 32 34 (w32 ((w32 (p * (4 : Int))) + pl))) ≠ (-1 : Int)) → (Q (some (vI (-1 : Int))) M)))) ∧ (¬ ((fP pl) ≠ (0 : Int)) → (Q (some (vI (-1 : Int))) M))))) :
  Call (e + 1) mX10_thought [vR 6, vI p, vI pl, vI w] M Q := by
  show Run (e + 1) mX10_thought 0 [some (vR 6), some (vI p), some (vI pl), some (vI w), none] [] M Q
  refine r_aload_n dX10_thought_0 rfl ?_
  refine r_getS (v := 29) dX10_thought_1 kF10_50 (sh_o hS rfl (by decide)) (sh_f hS rfl (by decide)) ?_
  refine r_iload_n dX10_thought_4 rfl ?_
  refine r_invV_i dX10_thought_5 kM10_179 (by decide) (Nat.le_of_ble_eq_true rfl) rfl rfl (Nat.le_of_ble_eq_true rfl) (Nat.le_of_ble_eq_true rfl) (sh_o hS rfl (by decide)) (i_has (by omega) hS ⟨_, rfl, ?_⟩)
  refine r_if_eq dX10_thought_8 rfl (fun c1 => ?_) (fun c1 => ?_)
  · refine r_iconst dX10_thought_18 (by decide) ?_
    exact r_iret dX10_thought_19 rfl (h.1 c1)
  · refine r_iload_n dX10_thought_11 rfl ?_
    refine r_invS_i dX10_thought_12 (by decide) kXn10_220 kM10_220 (by decide) (Nat.le_of_ble_eq_true rfl) rfl rfl (Nat.le_of_ble_eq_true rfl) (Nat.le_of_ble_eq_true rfl) (c_isPlace (by omega) ⟨_, rfl, ?_⟩)
    refine r_if_ne dX10_thought_15 rfl (fun c2 => ?_) (fun c2 => ?_)
    · refine r_iload_n dX10_thought_20 rfl ?_
      refine r_iconst dX10_thought_21 (by decide) ?_
      refine r_imul dX10_thought_22 ?_
      refine r_iload_n dX10_thought_23 rfl ?_
      refine r_iadd dX10_thought_24 ?_
      refine r_istore (ls2 := [some (vR 6), some (vI p), some (vI pl), some (vI w), some (vI (w32 ((w32 (p * (4 : Int))) + pl)))]) dX10_thought_25 (Nat.le_of_ble_eq_true rfl) rfl ?_
      refine r_aload_n dX10_thought_27 rfl ?_
      refine r_getS (v := 33) dX10_thought_28 kF10_57 (sh_o hS rfl (by decide)) (sh_f hS rfl (by decide)) ?_
      refine r_getS (v := 34) dX10_thought_31 kF10_223 (sh_o hS rfl (by decide)) (sh_f hS rfl (by decide)) ?_
      refine r_iload dX10_thought_34 rfl ?_
      refine r_invS_i dX10_thought_36 (by decide) kXn10_193 kM10_193 (by decide) (Nat.le_of_ble_eq_true rfl) rfl rfl (Nat.le_of_ble_eq_true rfl) (Nat.le_of_ble_eq_true rfl) (c_at (by omega) (sh_r hS rfl (by decide)) ⟨_, rfl, ?_⟩)
      refine r_iconst dX10_thought_39 (by decide) ?_
      refine r_icmp_ne dX10_thought_40 rfl (fun c3 => ?_) (fun c3 => ?_)
      · refine r_iload_n dX10_thought_45 rfl ?_
        by_cases c4 : w < 0 ∨ 4 < w
        · refine r_tab_out (tgt := 156) dX10_thought_46 c4 rfl ?_
          refine r_iconst dX10_thought_156 (by decide) ?_
          exact r_iret dX10_thought_157 rfl ((((h.2 c1).1 c2).1 c3).2.2.2.2.2 c4)
        · rcases (show w = 0 ∨ w = 1 ∨ w = 2 ∨ w = 3 ∨ w = 4 by omega) with c4e | c4e | c4e | c4e | c4e
          · refine r_tab_eq (tgt := 80) dX10_thought_46 c4e (by decide) rfl rfl ?_
            refine r_aload_n dX10_thought_80 rfl ?_
            refine r_getS (v := 33) dX10_thought_81 kF10_57 (sh_o hS rfl (by decide)) (sh_f hS rfl (by decide)) ?_
            refine r_getS (v := 34) dX10_thought_84 kF10_223 (sh_o hS rfl (by decide)) (sh_f hS rfl (by decide)) ?_
            refine r_iload dX10_thought_87 rfl ?_
            refine r_invS_i dX10_thought_89 (by decide) kXn10_193 kM10_193 (by decide) (Nat.le_of_ble_eq_true rfl) rfl rfl (Nat.le_of_ble_eq_true rfl) (Nat.le_of_ble_eq_true rfl) (c_at (by omega) (sh_r hS rfl (by decide)) ⟨_, rfl, ?_⟩)
            exact r_iret dX10_thought_92 rfl ((((h.2 c1).1 c2).1 c3).1 c4e)
          · refine r_tab_eq (tgt := 93) dX10_thought_46 c4e (by decide) rfl rfl ?_
            refine r_aload_n dX10_thought_93 rfl ?_
            refine r_getS (v := 33) dX10_thought_94 kF10_57 (sh_o hS rfl (by decide)) (sh_f hS rfl (by decide)) ?_
            refine r_getS (v := 35) dX10_thought_97 kF10_226 (sh_o hS rfl (by decide)) (sh_f hS rfl (by decide)) ?_
            refine r_iload dX10_thought_100 rfl ?_
            refine r_invS_i dX10_thought_102 (by decide) kXn10_193 kM10_193 (by decide) (Nat.le_of_ble_eq_true rfl) rfl rfl (Nat.le_of_ble_eq_true rfl) (Nat.le_of_ble_eq_true rfl) (c_at (by omega) (sh_r hS rfl (by decide)) ⟨_, rfl, ?_⟩)
            exact r_iret dX10_thought_105 rfl ((((h.2 c1).1 c2).1 c3).2.1 c4e)
          · refine r_tab_eq (tgt := 106) dX10_thought_46 c4e (by decide) rfl rfl ?_
            refine r_aload_n dX10_thought_106 rfl ?_
            refine r_getS (v := 33) dX10_thought_107 kF10_57 (sh_o hS rfl (by decide)) (sh_f hS rfl (by decide)) ?_
            refine r_getS (v := 36) dX10_thought_110 kF10_229 (sh_o hS rfl (by decide)) (sh_f hS rfl (by decide)) ?_
            refine r_iload dX10_thought_113 rfl ?_
            refine r_invS_i dX10_thought_115 (by decide) kXn10_193 kM10_193 (by decide) (Nat.le_of_ble_eq_true rfl) rfl rfl (Nat.le_of_ble_eq_true rfl) (Nat.le_of_ble_eq_true rfl) (c_at (by omega) (sh_r hS rfl (by decide)) ⟨_, rfl, ?_⟩)
            exact r_iret dX10_thought_118 rfl ((((h.2 c1).1 c2).1 c3).2.2.1 c4e)
          · refine r_tab_eq (tgt := 119) dX10_thought_46 c4e (by decide) rfl rfl ?_
            refine r_aload_n dX10_thought_119 rfl ?_
            refine r_getS (v := 33) dX10_thought_120 kF10_57 (sh_o hS rfl (by decide)) (sh_f hS rfl (by decide)) ?_
            refine r_getS (v := 37) dX10_thought_123 kF10_232 (sh_o hS rfl (by decide)) (sh_f hS rfl (by decide)) ?_
            refine r_iload dX10_thought_126 rfl ?_
            refine r_invS_i dX10_thought_128 (by decide) kXn10_193 kM10_193 (by decide) (Nat.le_of_ble_eq_true rfl) rfl rfl (Nat.le_of_ble_eq_true rfl) (Nat.le_of_ble_eq_true rfl) (c_at (by omega) (sh_r hS rfl (by decide)) ⟨_, rfl, ?_⟩)
            exact r_iret dX10_thought_131 rfl ((((h.2 c1).1 c2).1 c3).2.2.2.1 c4e)
          · refine r_tab_eq (tgt := 132) dX10_thought_46 c4e (by decide) rfl rfl ?_
            refine r_aload_n dX10_thought_132 rfl ?_
            refine r_getS (v := 29) dX10_thought_133 kF10_50 (sh_o hS rfl (by decide)) (sh_f hS rfl (by decide)) ?_
            refine r_aload_n dX10_thought_136 rfl ?_
            refine r_getS (v := 33) dX10_thought_137 kF10_57 (sh_o hS rfl (by decide)) (sh_f hS rfl (by decide)) ?_
            refine r_invV_v dX10_thought_140 kM10_203 (by decide) (Nat.le_of_ble_eq_true rfl) rfl rfl (Nat.le_of_ble_eq_true rfl) (Nat.le_of_ble_eq_true rfl) (sh_o hS rfl (by decide)) (Call.mono ((((h.2 c1).1 c2).1 c3).2.2.2.2.1 c4e) (Nat.le_refl _) ?_)
            rintro _ M6 ⟨rfl, s9, h7⟩
            refine ⟨rfl, ?_⟩
            refine r_aload_n dX10_thought_143 rfl ?_
            refine r_getS (v := 33) dX10_thought_144 kF10_57 (sh_o s9 rfl (by decide)) (sh_f s9 rfl (by decide)) ?_
            refine r_getS (v := 38) dX10_thought_147 kF10_235 (sh_o s9 rfl (by decide)) (sh_f s9 rfl (by decide)) ?_
            refine r_iload dX10_thought_150 rfl ?_
            refine r_invS_i dX10_thought_152 (by decide) kXn10_193 kM10_193 (by decide) (Nat.le_of_ble_eq_true rfl) rfl rfl (Nat.le_of_ble_eq_true rfl) (Nat.le_of_ble_eq_true rfl) (c_at (by omega) (sh_r s9 rfl (by decide)) ⟨_, rfl, ?_⟩)
            exact r_iret dX10_thought_155 rfl h7
      · refine r_iconst dX10_thought_43 (by decide) ?_
        exact r_iret dX10_thought_44 rfl (((h.2 c1).1 c2).2 c3)
    · refine r_iconst dX10_thought_18 (by decide) ?_
      exact r_iret dX10_thought_19 rfl ((h.2 c1).2 c2)
theorem vx_goes {e : Nat} {M : jM} {Q : Option jV → jM → Prop} {p : Int} {k : Int} (he : 4 ≤ e) (hS : Shp M)
  (h : (((if 0 ≤ p ∧ p < iv M 29 0 then (1 : Int) else (0 : Int)) = (0 : Int)) → (Q (some (vI (-1 : Int))) M)) ∧ (¬ ((if 0 ≤ p ∧ p < iv M 29 0 then (1 : Int) else (0 : Int)) = (0 : Int)) → ((((fK k) ≠ (0 : Int)) → (Q (some (vI (if (fG (atv M 8 31 p) k) = (0 : Int) then (0 : Int) else (1 : Int)))) M)) ∧ (¬ ((fK k) ≠ (0 : Int)) → (Q (some (vI (-1 : Int))) M))))) :
  Call (e + 1) mX10_goes [vR 6, vI p, vI k] M Q := by
  show Run (e + 1) mX10_goes 0 [some (vR 6), some (vI p), some (vI k)] [] M Q
  refine r_aload_n dX10_goes_0 rfl ?_
  refine r_getS (v := 29) dX10_goes_1 kF10_50 (sh_o hS rfl (by decide)) (sh_f hS rfl (by decide)) ?_
  refine r_iload_n dX10_goes_4 rfl ?_
  refine r_invV_i dX10_goes_5 kM10_179 (by decide) (Nat.le_of_ble_eq_true rfl) rfl rfl (Nat.le_of_ble_eq_true rfl) (Nat.le_of_ble_eq_true rfl) (sh_o hS rfl (by decide)) (i_has (by omega) hS ⟨_, rfl, ?_⟩)
  refine r_if_eq dX10_goes_8 rfl (fun c1 => ?_) (fun c1 => ?_)
  · refine r_iconst dX10_goes_18 (by decide) ?_
    exact r_iret dX10_goes_19 rfl (h.1 c1)
  · refine r_iload_n dX10_goes_11 rfl ?_
    refine r_invS_i dX10_goes_12 (by decide) kXn10_238 kM10_238 (by decide) (Nat.le_of_ble_eq_true rfl) rfl rfl (Nat.le_of_ble_eq_true rfl) (Nat.le_of_ble_eq_true rfl) (c_isKind (by omega) ⟨_, rfl, ?_⟩)
    refine r_if_ne dX10_goes_15 rfl (fun c2 => ?_) (fun c2 => ?_)
    · refine r_aload_n dX10_goes_20 rfl ?_
      refine r_getS (v := 29) dX10_goes_21 kF10_50 (sh_o hS rfl (by decide)) (sh_f hS rfl (by decide)) ?_
      refine r_iload_n dX10_goes_24 rfl ?_
      refine r_iload_n dX10_goes_25 rfl ?_
      refine r_invV_i dX10_goes_26 kM10_241 (by decide) (Nat.le_of_ble_eq_true rfl) rfl rfl (Nat.le_of_ble_eq_true rfl) (Nat.le_of_ble_eq_true rfl) (sh_o hS rfl (by decide)) (c_takes (by omega) hS ⟨_, rfl, ?_⟩)
      have K3 : Run (e + 1) mX10_goes 37 [some (vR 6), some (vI p), some (vI k)] [vI (if (fG (atv M 8 31 p) k) = (0 : Int) then (0 : Int) else (1 : Int))] M Q := by
        exact r_iret dX10_goes_37 rfl ((h.2 c1).1 c2)
      refine r_if_eq dX10_goes_29 rfl (fun q4 => ?_) (fun q4 => ?_)
      · rw [if_pos q4] at K3
        refine r_iconst dX10_goes_36 (by decide) ?_
        exact K3
      · rw [if_neg q4] at K3
        refine r_iconst dX10_goes_32 (by decide) ?_
        refine r_goto (tgt := 37) dX10_goes_33 rfl ?_
        exact K3
    · refine r_iconst dX10_goes_18 (by decide) ?_
      exact r_iret dX10_goes_19 rfl ((h.2 c1).2 c2)
theorem vx_log {e : Nat} {M : jM} {Q : Option jV → jM → Prop} {i : Int} {w : Int} (he : 4 ≤ e) (hS : Shp M)
  (h : ((i < (0 : Int)) → (Q (some (vI (-1 : Int))) M)) ∧ (¬ (i < (0 : Int)) → (Call e mX7_logLength [vR 33] M (fun r5 M3 => ∃ z2 : Int, r5 = some (vI z2) ∧ Shp M3 ∧ (((z2 ≤ i) → (Q (some (vI (-1 : Int))) M3)) ∧ (¬ (z2 ≤ i) → (((w < (0 : Int)) → (Q (some (vI (-1 : Int))) M3)) ∧ (¬ (w < (0 : Int)) → (((w ≤ (2 : Int)) → (Call e mX7_logged [vR 33, vI i, vI w] M3 (fun r13 M11 => ∃ z10 : Int, r13 = some (vI z10) ∧ Shp M11 ∧ (Q (some (vI z10)) M11)))) ∧ (¬ (w ≤ (2 : Int)) → (Q (some (vI (-1 : Int))) M3))))))))))) :
  Call (e + 1) mX10_log [vR 6, vI i, vI w] M Q := by
  show Run (e + 1) mX10_log 0 [some (vR 6), some (vI i), some (vI w)] [] M Q
  refine r_iload_n dX10_log_0 rfl ?_
  refine r_if_lt dX10_log_1 rfl (fun c1 => ?_) (fun c1 => ?_)
  · refine r_iconst dX10_log_24 (by decide) ?_
    exact r_iret dX10_log_25 rfl (h.1 c1)
  · refine r_iload_n dX10_log_4 rfl ?_
    refine r_aload_n dX10_log_5 rfl ?_
    refine r_getS (v := 33) dX10_log_6 kF10_57 (sh_o hS rfl (by decide)) (sh_f hS rfl (by decide)) ?_
    refine r_invV_i dX10_log_9 kM10_245 (by decide) (Nat.le_of_ble_eq_true rfl) rfl rfl (Nat.le_of_ble_eq_true rfl) (Nat.le_of_ble_eq_true rfl) (sh_o hS rfl (by decide)) (Call.mono (h.2 c1) (Nat.le_refl _) ?_)
    rintro _ M3 ⟨z2, rfl, s6, h4⟩
    refine ⟨_, rfl, ?_⟩
    refine r_icmp_ge dX10_log_12 rfl (fun c7 => ?_) (fun c7 => ?_)
    · refine r_iconst dX10_log_24 (by decide) ?_
      exact r_iret dX10_log_25 rfl (h4.1 c7)
    · refine r_iload_n dX10_log_15 rfl ?_
      refine r_if_lt dX10_log_16 rfl (fun c8 => ?_) (fun c8 => ?_)
      · refine r_iconst dX10_log_24 (by decide) ?_
        exact r_iret dX10_log_25 rfl ((h4.2 c7).1 c8)
      · refine r_iload_n dX10_log_19 rfl ?_
        refine r_iconst dX10_log_20 (by decide) ?_
        refine r_icmp_le dX10_log_21 rfl (fun c9 => ?_) (fun c9 => ?_)
        · refine r_aload_n dX10_log_26 rfl ?_
          refine r_getS (v := 33) dX10_log_27 kF10_57 (sh_o s6 rfl (by decide)) (sh_f s6 rfl (by decide)) ?_
          refine r_iload_n dX10_log_30 rfl ?_
          refine r_iload_n dX10_log_31 rfl ?_
          refine r_invV_i dX10_log_32 kM10_248 (by decide) (Nat.le_of_ble_eq_true rfl) rfl rfl (Nat.le_of_ble_eq_true rfl) (Nat.le_of_ble_eq_true rfl) (sh_o s6 rfl (by decide)) (Call.mono (((h4.2 c7).2 c8).1 c9) (Nat.le_refl _) ?_)
          rintro _ M11 ⟨z10, rfl, s14, h12⟩
          refine ⟨_, rfl, ?_⟩
          exact r_iret dX10_log_35 rfl h12
        · refine r_iconst dX10_log_24 (by decide) ?_
          exact r_iret dX10_log_25 rfl (((h4.2 c7).2 c8).2 c9)
theorem vx_status {e : Nat} {M : jM} {Q : Option jV → jM → Prop} {w : Int} (he : 4 ≤ e) (hS : Shp M)
  (h : Q (some (vI (if w < (0 : Int) then (-1 : Int) else (if w < (5 : Int) then (atv M 5 28 w) else (-1 : Int))))) M) :
  Call (e + 1) mX10_status [vR 6, vI w] M Q := by
  show Run (e + 1) mX10_status 0 [some (vR 6), some (vI w)] [] M Q
  refine r_iload_n dX10_status_0 rfl ?_
  have K1 : Run (e + 1) mX10_status 21 [some (vR 6), some (vI w)] [vI (if w < (0 : Int) then (-1 : Int) else (if w < (5 : Int) then (atv M 5 28 w) else (-1 : Int)))] M Q := by
    exact r_iret dX10_status_21 rfl h
  refine r_if_lt dX10_status_1 rfl (fun q2 => ?_) (fun q2 => ?_)
  · rw [if_pos q2] at K1
    refine r_iconst dX10_status_9 (by decide) ?_
    refine r_goto (tgt := 21) dX10_status_10 rfl ?_
    exact K1
  · rw [if_neg q2] at K1
    refine r_iload_n dX10_status_4 rfl ?_
    refine r_iconst dX10_status_5 (by decide) ?_
    refine r_icmp_lt dX10_status_6 rfl (fun q4 => ?_) (fun q4 => ?_)
    · rw [if_pos q4] at K1
      refine r_aload_n dX10_status_13 rfl ?_
      refine r_getS (v := 28) dX10_status_14 kF10_43 (sh_o hS rfl (by decide)) (sh_f hS rfl (by decide)) ?_
      refine r_iload_n dX10_status_17 rfl ?_
      refine r_invS_i dX10_status_18 (by decide) kXn10_193 kM10_193 (by decide) (Nat.le_of_ble_eq_true rfl) rfl rfl (Nat.le_of_ble_eq_true rfl) (Nat.le_of_ble_eq_true rfl) (c_at (by omega) (sh_r hS rfl (by decide)) ⟨_, rfl, ?_⟩)
      exact K1
    · rw [if_neg q4] at K1
      refine r_iconst dX10_status_9 (by decide) ?_
      refine r_goto (tgt := 21) dX10_status_10 rfl ?_
      exact K1
theorem vx_count {e : Nat} {M : jM} {Q : Option jV → jM → Prop} {w : Int} (he : 4 ≤ e) (hS : Shp M)
  (h : (w = 0 → (Q (some (vI (iv M 29 0))) M)) ∧ (w = 1 → (Q (some (vI (iv M 6 4))) M)) ∧ (w = 2 → (Q (some (vI (iv M 7 1))) M)) ∧ (w = 3 → (Q (some (vI (iv M 6 5))) M)) ∧ (w = 4 → (Q (some (vI (iv M 33 9))) M)) ∧ (w = 5 → (Q (some (vI (iv M 6 6))) M)) ∧ (w = 6 → (Q (some (vI (iv M 387 4))) M)) ∧ (w = 7 → (Call e mX7_logLength [vR 33] M (fun r5 M3 => ∃ z2 : Int, r5 = some (vI z2) ∧ Shp M3 ∧ (Q (some (vI z2)) M3)))) ∧ (w = 8 → (Q (some (vI (iv M 65 2))) M)) ∧ ((w < 0 ∨ 8 < w) → (Q (some (vI (-1000000 : Int))) M))) :
  Call (e + 1) mX10_count [vR 6, vI w] M Q := by
  show Run (e + 1) mX10_count 0 [some (vR 6), some (vI w)] [] M Q
  refine r_iload_n dX10_count_0 rfl ?_
  by_cases c1 : w < 0 ∨ 8 < w
  · refine r_tab_out (tgt := 115) dX10_count_1 c1 rfl ?_
    refine r_ldc_w dX10_count_115 kK10_261 ?_
    exact r_iret dX10_count_118 rfl (h.2.2.2.2.2.2.2.2.2 c1)
  · rcases (show w = 0 ∨ w = 1 ∨ w = 2 ∨ w = 3 ∨ w = 4 ∨ w = 5 ∨ w = 6 ∨ w = 7 ∨ w = 8 by omega) with c1e | c1e | c1e | c1e | c1e | c1e | c1e | c1e | c1e
    · refine r_tab_eq (tgt := 52) dX10_count_1 c1e (by decide) rfl rfl ?_
      refine r_aload_n dX10_count_52 rfl ?_
      refine r_getS (v := 29) dX10_count_53 kF10_50 (sh_o hS rfl (by decide)) (sh_f hS rfl (by decide)) ?_
      refine r_get0 dX10_count_56 kF10_146 (sh_o hS rfl (by decide)) ?_
      exact r_iret dX10_count_59 rfl (h.1 c1e)
    · refine r_tab_eq (tgt := 60) dX10_count_1 c1e (by decide) rfl rfl ?_
      refine r_aload_n dX10_count_60 rfl ?_
      refine r_get0 dX10_count_61 kF10_124 (sh_o hS rfl (by decide)) ?_
      exact r_iret dX10_count_64 rfl (h.2.1 c1e)
    · refine r_tab_eq (tgt := 65) dX10_count_1 c1e (by decide) rfl rfl ?_
      refine r_aload_n dX10_count_65 rfl ?_
      refine r_getS (v := 7) dX10_count_66 kF10_10 (sh_o hS rfl (by decide)) (sh_f hS rfl (by decide)) ?_
      refine r_get0 dX10_count_69 kF10_105 (sh_o hS rfl (by decide)) ?_
      exact r_iret dX10_count_72 rfl (h.2.2.1 c1e)
    · refine r_tab_eq (tgt := 73) dX10_count_1 c1e (by decide) rfl rfl ?_
      refine r_aload_n dX10_count_73 rfl ?_
      refine r_get0 dX10_count_74 kF10_36 (sh_o hS rfl (by decide)) ?_
      exact r_iret dX10_count_77 rfl (h.2.2.2.1 c1e)
    · refine r_tab_eq (tgt := 78) dX10_count_1 c1e (by decide) rfl rfl ?_
      refine r_aload_n dX10_count_78 rfl ?_
      refine r_getS (v := 33) dX10_count_79 kF10_57 (sh_o hS rfl (by decide)) (sh_f hS rfl (by decide)) ?_
      refine r_get0 dX10_count_82 kF10_252 (sh_o hS rfl (by decide)) ?_
      exact r_iret dX10_count_85 rfl (h.2.2.2.2.1 c1e)
    · refine r_tab_eq (tgt := 86) dX10_count_1 c1e (by decide) rfl rfl ?_
      refine r_aload_n dX10_count_86 rfl ?_
      refine r_get0 dX10_count_87 kF10_40 (sh_o hS rfl (by decide)) ?_
      exact r_iret dX10_count_90 rfl (h.2.2.2.2.2.1 c1e)
    · refine r_tab_eq (tgt := 91) dX10_count_1 c1e (by decide) rfl rfl ?_
      refine r_aload_n dX10_count_91 rfl ?_
      refine r_getS (v := 387) dX10_count_92 kF10_80 (sh_o hS rfl (by decide)) (sh_f hS rfl (by decide)) ?_
      refine r_get0 dX10_count_95 kF10_255 (sh_o hS rfl (by decide)) ?_
      exact r_iret dX10_count_98 rfl (h.2.2.2.2.2.2.1 c1e)
    · refine r_tab_eq (tgt := 99) dX10_count_1 c1e (by decide) rfl rfl ?_
      refine r_aload_n dX10_count_99 rfl ?_
      refine r_getS (v := 33) dX10_count_100 kF10_57 (sh_o hS rfl (by decide)) (sh_f hS rfl (by decide)) ?_
      refine r_invV_i dX10_count_103 kM10_245 (by decide) (Nat.le_of_ble_eq_true rfl) rfl rfl (Nat.le_of_ble_eq_true rfl) (Nat.le_of_ble_eq_true rfl) (sh_o hS rfl (by decide)) (Call.mono (h.2.2.2.2.2.2.2.1 c1e) (Nat.le_refl _) ?_)
      rintro _ M3 ⟨z2, rfl, s6, h4⟩
      refine ⟨_, rfl, ?_⟩
      exact r_iret dX10_count_106 rfl h4
    · refine r_tab_eq (tgt := 107) dX10_count_1 c1e (by decide) rfl rfl ?_
      refine r_aload_n dX10_count_107 rfl ?_
      refine r_getS (v := 65) dX10_count_108 kF10_73 (sh_o hS rfl (by decide)) (sh_f hS rfl (by decide)) ?_
      refine r_get0 dX10_count_111 kF10_258 (sh_o hS rfl (by decide)) ?_
      exact r_iret dX10_count_114 rfl (h.2.2.2.2.2.2.2.2.1 c1e)
theorem vx_hours {e : Nat} {M : jM} {Q : Option jV → jM → Prop} {n : Int} (he : 4 ≤ e) (hS : Shp M)
  (h : (((if 0 < iv M 29 0 then (1 : Int) else (0 : Int)) ≠ (0 : Int)) → (((n < (1 : Int)) → (Q (some (vI (-1 : Int))) (ptv M 5 28 (1 : Int) (w32 (atv M 5 28 (1 : Int) + 1))))) ∧ (¬ (n < (1 : Int)) → (((n ≤ (60 : Int)) → ((((w32 ((iv M 33 9) + n)) ≤ (9999 : Int)) → (Call e mX1_weigh [vR 29, vR 33] M (fun r8 M6 => r8 = none ∧ Shp M6 ∧ (Run (e + 1) mX10_hours 64 [some (vR 6), some (vI n), some (vI (0 : Int))] [] M6 Q)))) ∧ (¬ ((w32 ((iv M 33 9) + n)) ≤ (9999 : Int)) → (Q (some (vI (-1 : Int))) (ptv M 5 28 (4 : Int) (w32 (atv M 5 28 (4 : Int) + 1))))))) ∧ (¬ (n ≤ (60 : Int)) → (Q (some (vI (-1 : Int))) (ptv M 5 28 (1 : Int) (w32 (atv M 5 28 (1 : Int) + 1))))))))) ∧ (¬ ((if 0 < iv M 29 0 then (1 : Int) else (0 : Int)) ≠ (0 : Int)) → (Q (some (vI (-1 : Int))) (ptv M 5 28 (0 : Int) (w32 (atv M 5 28 (0 : Int) + 1)))))) :
  Call (e + 1) mX10_hours [vR 6, vI n] M Q := by
  show Run (e + 1) mX10_hours 0 [some (vR 6), some (vI n), none] [] M Q
  refine r_aload_n dX10_hours_0 rfl ?_
  refine r_invV_i dX10_hours_1 kM10_164 (by decide) (Nat.le_of_ble_eq_true rfl) rfl rfl (Nat.le_of_ble_eq_true rfl) (Nat.le_of_ble_eq_true rfl) (sh_o hS rfl (by decide)) (c_hasIsland (by omega) hS ⟨_, rfl, ?_⟩)
  refine r_if_ne dX10_hours_4 rfl (fun c1 => ?_) (fun c1 => ?_)
  · refine r_iload_n dX10_hours_13 rfl ?_
    refine r_iconst dX10_hours_14 (by decide) ?_
    refine r_icmp_lt dX10_hours_15 rfl (fun c2 => ?_) (fun c2 => ?_)
    · refine r_aload_n dX10_hours_24 rfl ?_
      refine r_iconst dX10_hours_25 (by decide) ?_
      refine r_invV_i dX10_hours_26 kM10_262 (by decide) (Nat.le_of_ble_eq_true rfl) rfl rfl (Nat.le_of_ble_eq_true rfl) (Nat.le_of_ble_eq_true rfl) (sh_o hS rfl (by decide)) (c_refuse (by omega) hS ⟨_, rfl, ?_⟩)
      exact r_iret dX10_hours_29 rfl ((h.1 c1).1 c2)
    · refine r_iload_n dX10_hours_18 rfl ?_
      refine r_bipush dX10_hours_19 (by decide) ?_
      refine r_icmp_le dX10_hours_21 rfl (fun c3 => ?_) (fun c3 => ?_)
      · refine r_aload_n dX10_hours_30 rfl ?_
        refine r_getS (v := 33) dX10_hours_31 kF10_57 (sh_o hS rfl (by decide)) (sh_f hS rfl (by decide)) ?_
        refine r_get0 dX10_hours_34 kF10_252 (sh_o hS rfl (by decide)) ?_
        refine r_iload_n dX10_hours_37 rfl ?_
        refine r_iadd dX10_hours_38 ?_
        refine r_sipush dX10_hours_39 (by decide) ?_
        refine r_icmp_le dX10_hours_42 rfl (fun c4 => ?_) (fun c4 => ?_)
        · refine r_aload_n dX10_hours_51 rfl ?_
          refine r_getS (v := 29) dX10_hours_52 kF10_50 (sh_o hS rfl (by decide)) (sh_f hS rfl (by decide)) ?_
          refine r_aload_n dX10_hours_55 rfl ?_
          refine r_getS (v := 33) dX10_hours_56 kF10_57 (sh_o hS rfl (by decide)) (sh_f hS rfl (by decide)) ?_
          refine r_invV_v dX10_hours_59 kM10_203 (by decide) (Nat.le_of_ble_eq_true rfl) rfl rfl (Nat.le_of_ble_eq_true rfl) (Nat.le_of_ble_eq_true rfl) (sh_o hS rfl (by decide)) (Call.mono ((((h.1 c1).2 c2).1 c3).1 c4) (Nat.le_refl _) ?_)
          rintro _ M6 ⟨rfl, s9, h7⟩
          refine ⟨rfl, ?_⟩
          refine r_iconst dX10_hours_62 (by decide) ?_
          refine r_istore_n (ls2 := [some (vR 6), some (vI n), some (vI (0 : Int))]) dX10_hours_63 (Nat.le_of_ble_eq_true rfl) rfl ?_
          exact h7
        · refine r_aload_n dX10_hours_45 rfl ?_
          refine r_iconst dX10_hours_46 (by decide) ?_
          refine r_invV_i dX10_hours_47 kM10_262 (by decide) (Nat.le_of_ble_eq_true rfl) rfl rfl (Nat.le_of_ble_eq_true rfl) (Nat.le_of_ble_eq_true rfl) (sh_o hS rfl (by decide)) (c_refuse (by omega) hS ⟨_, rfl, ?_⟩)
          exact r_iret dX10_hours_50 rfl ((((h.1 c1).2 c2).1 c3).2 c4)
      · refine r_aload_n dX10_hours_24 rfl ?_
        refine r_iconst dX10_hours_25 (by decide) ?_
        refine r_invV_i dX10_hours_26 kM10_262 (by decide) (Nat.le_of_ble_eq_true rfl) rfl rfl (Nat.le_of_ble_eq_true rfl) (Nat.le_of_ble_eq_true rfl) (sh_o hS rfl (by decide)) (c_refuse (by omega) hS ⟨_, rfl, ?_⟩)
        exact r_iret dX10_hours_29 rfl (((h.1 c1).2 c2).2 c3)
  · refine r_aload_n dX10_hours_7 rfl ?_
    refine r_iconst dX10_hours_8 (by decide) ?_
    refine r_invV_i dX10_hours_9 kM10_262 (by decide) (Nat.le_of_ble_eq_true rfl) rfl rfl (Nat.le_of_ble_eq_true rfl) (Nat.le_of_ble_eq_true rfl) (sh_o hS rfl (by decide)) (c_refuse (by omega) hS ⟨_, rfl, ?_⟩)
    exact r_iret dX10_hours_12 rfl (h.2 c1)
theorem vx_hours_64 {e : Nat} {M : jM} {Q : Option jV → jM → Prop} {n : Int} {l2 : Int}  (he : 4 ≤ e) (hS : Shp M)
  (h : ((n ≤ l2) → (Q (some (vI (iv M 33 9))) M)) ∧ (¬ (n ≤ l2) → (Call e mX5_keep [vR 65, vR 33] M (fun r14 M12 => r14 = none ∧ Shp M12 ∧ (Call e mX10_letAnHourPass [vR 6] M12 (fun r19 M17 => r19 = none ∧ Shp M17 ∧ (Run (e + 1) mX10_hours 64 [some (vR 6), some (vI n), some (vI (w32 (l2 + (1 : Int))))] [] M17 Q))))))) :
  Run (e + 1) mX10_hours 64 [some (vR 6), some (vI n), some (vI l2)] [] M Q := by
  refine r_iload_n dX10_hours_64 rfl ?_
  refine r_iload_n dX10_hours_65 rfl ?_
  refine r_icmp_ge dX10_hours_66 rfl (fun c10 => ?_) (fun c10 => ?_)
  · refine r_aload_n dX10_hours_90 rfl ?_
    refine r_getS (v := 33) dX10_hours_91 kF10_57 (sh_o hS rfl (by decide)) (sh_f hS rfl (by decide)) ?_
    refine r_get0 dX10_hours_94 kF10_252 (sh_o hS rfl (by decide)) ?_
    exact r_iret dX10_hours_97 rfl (h.1 c10)
  · refine r_aload_n dX10_hours_69 rfl ?_
    refine r_getS (v := 65) dX10_hours_70 kF10_73 (sh_o hS rfl (by decide)) (sh_f hS rfl (by decide)) ?_
    refine r_aload_n dX10_hours_73 rfl ?_
    refine r_getS (v := 33) dX10_hours_74 kF10_57 (sh_o hS rfl (by decide)) (sh_f hS rfl (by decide)) ?_
    refine r_invV_v dX10_hours_77 kM10_265 (by decide) (Nat.le_of_ble_eq_true rfl) rfl rfl (Nat.le_of_ble_eq_true rfl) (Nat.le_of_ble_eq_true rfl) (sh_o hS rfl (by decide)) (Call.mono (h.2 c10) (Nat.le_refl _) ?_)
    rintro _ M12 ⟨rfl, s15, h13⟩
    refine ⟨rfl, ?_⟩
    refine r_aload_n dX10_hours_80 rfl ?_
    refine r_invV_v dX10_hours_81 kM10_268 (by decide) (Nat.le_of_ble_eq_true rfl) rfl rfl (Nat.le_of_ble_eq_true rfl) (Nat.le_of_ble_eq_true rfl) (sh_o s15 rfl (by decide)) (Call.mono h13 (Nat.le_refl _) ?_)
    rintro _ M17 ⟨rfl, s20, h18⟩
    refine ⟨rfl, ?_⟩
    refine r_iinc (ls2 := [some (vR 6), some (vI n), some (vI (w32 (l2 + (1 : Int))))]) dX10_hours_84 rfl rfl ?_
    refine r_goto (tgt := 64) dX10_hours_87 rfl ?_
    exact h18
theorem vx_think {e : Nat} {M : jM} {Q : Option jV → jM → Prop} {p : Int} {q : Int} {k : Int} {t : Int} (he : 4 ≤ e) (hS : Shp M)
  (h : (((if 0 ≤ p ∧ p < iv M 29 0 then (1 : Int) else (0 : Int)) = (0 : Int)) → (Q (some (vI (-1 : Int))) (ptv M 5 28 (0 : Int) (w32 (atv M 5 28 (0 : Int) + 1))))) ∧ (¬ ((if 0 ≤ p ∧ p < iv M 29 0 then (1 : Int) else (0 : Int)) = (0 : Int)) → ((((if 0 ≤ q ∧ q < iv M 29 0 then (1 : Int) else (0 : Int)) ≠ (0 : Int)) → (((p = q) → (Q (some (vI (-1 : Int))) (ptv M 5 28 (1 : Int) (w32 (atv M 5 28 (1 : Int) + 1))))) ∧ (¬ (p = q) → ((((fK k) = (0 : Int)) → (Q (some (vI (-1 : Int))) (ptv M 5 28 (1 : Int) (w32 (atv M 5 28 (1 : Int) + 1))))) ∧ (¬ ((fK k) = (0 : Int)) → (((t < (1 : Int)) → (Q (some (vI (-1 : Int))) (ptv M 5 28 (1 : Int) (w32 (atv M 5 28 (1 : Int) + 1))))) ∧ (¬ (t < (1 : Int)) → (((t ≤ (9 : Int)) → ((((fG (atv M 8 31 p) k) ≠ (0 : Int)) → (Call e mX7_emptyPlace [vR 33, vI p] M (fun r11 M9 => ∃ z8 : Int, r11 = some (vI z8) ∧ Shp M9 ∧ (((z8 ≠ (-1 : Int)) → (Call e mX5_keep [vR 65, vR 33] M9 (fun r17 M15 => r17 = none ∧ Shp M15 ∧ (Call e mX7_lay [vR 33, vI p, vI z8, vI q, vI k, vI t] M15 (fun r22 M20 => r22 = none ∧ Shp M20 ∧ (Q (some (vI z8)) M20)))))) ∧ (¬ (z8 ≠ (-1 : Int)) → (Q (some (vI (-1 : Int))) (ptv M9 5 28 (3 : Int) (w32 (atv M9 5 28 (3 : Int) + 1))))))))) ∧ (¬ ((fG (atv M 8 31 p) k) ≠ (0 : Int)) → (Q (some (vI (-1 : Int))) (ptv M 5 28 (2 : Int) (w32 (atv M 5 28 (2 : Int) + 1))))))) ∧ (¬ (t ≤ (9 : Int)) → (Q (some (vI (-1 : Int))) (ptv M 5 28 (1 : Int) (w32 (atv M 5 28 (1 : Int) + 1))))))))))))) ∧ (¬ ((if 0 ≤ q ∧ q < iv M 29 0 then (1 : Int) else (0 : Int)) ≠ (0 : Int)) → (Q (some (vI (-1 : Int))) (ptv M 5 28 (0 : Int) (w32 (atv M 5 28 (0 : Int) + 1)))))))) :
  Call (e + 1) mX10_think [vR 6, vI p, vI q, vI k, vI t] M Q := by
  show Run (e + 1) mX10_think 0 [some (vR 6), some (vI p), some (vI q), some (vI k), some (vI t), none] [] M Q
  refine r_aload_n dX10_think_0 rfl ?_
  refine r_getS (v := 29) dX10_think_1 kF10_50 (sh_o hS rfl (by decide)) (sh_f hS rfl (by decide)) ?_
  refine r_iload_n dX10_think_4 rfl ?_
  refine r_invV_i dX10_think_5 kM10_179 (by decide) (Nat.le_of_ble_eq_true rfl) rfl rfl (Nat.le_of_ble_eq_true rfl) (Nat.le_of_ble_eq_true rfl) (sh_o hS rfl (by decide)) (i_has (by omega) hS ⟨_, rfl, ?_⟩)
  refine r_if_eq dX10_think_8 rfl (fun c1 => ?_) (fun c1 => ?_)
  · refine r_aload_n dX10_think_22 rfl ?_
    refine r_iconst dX10_think_23 (by decide) ?_
    refine r_invV_i dX10_think_24 kM10_262 (by decide) (Nat.le_of_ble_eq_true rfl) rfl rfl (Nat.le_of_ble_eq_true rfl) (Nat.le_of_ble_eq_true rfl) (sh_o hS rfl (by decide)) (c_refuse (by omega) hS ⟨_, rfl, ?_⟩)
    exact r_iret dX10_think_27 rfl (h.1 c1)
  · refine r_aload_n dX10_think_11 rfl ?_
    refine r_getS (v := 29) dX10_think_12 kF10_50 (sh_o hS rfl (by decide)) (sh_f hS rfl (by decide)) ?_
    refine r_iload_n dX10_think_15 rfl ?_
    refine r_invV_i dX10_think_16 kM10_179 (by decide) (Nat.le_of_ble_eq_true rfl) rfl rfl (Nat.le_of_ble_eq_true rfl) (Nat.le_of_ble_eq_true rfl) (sh_o hS rfl (by decide)) (i_has (by omega) hS ⟨_, rfl, ?_⟩)
    refine r_if_ne dX10_think_19 rfl (fun c2 => ?_) (fun c2 => ?_)
    · refine r_iload_n dX10_think_28 rfl ?_
      refine r_iload_n dX10_think_29 rfl ?_
      refine r_icmp_eq dX10_think_30 rfl (fun c3 => ?_) (fun c3 => ?_)
      · refine r_aload_n dX10_think_53 rfl ?_
        refine r_iconst dX10_think_54 (by decide) ?_
        refine r_invV_i dX10_think_55 kM10_262 (by decide) (Nat.le_of_ble_eq_true rfl) rfl rfl (Nat.le_of_ble_eq_true rfl) (Nat.le_of_ble_eq_true rfl) (sh_o hS rfl (by decide)) (c_refuse (by omega) hS ⟨_, rfl, ?_⟩)
        exact r_iret dX10_think_58 rfl (((h.2 c1).1 c2).1 c3)
      · refine r_iload_n dX10_think_33 rfl ?_
        refine r_invS_i dX10_think_34 (by decide) kXn10_238 kM10_238 (by decide) (Nat.le_of_ble_eq_true rfl) rfl rfl (Nat.le_of_ble_eq_true rfl) (Nat.le_of_ble_eq_true rfl) (c_isKind (by omega) ⟨_, rfl, ?_⟩)
        refine r_if_eq dX10_think_37 rfl (fun c4 => ?_) (fun c4 => ?_)
        · refine r_aload_n dX10_think_53 rfl ?_
          refine r_iconst dX10_think_54 (by decide) ?_
          refine r_invV_i dX10_think_55 kM10_262 (by decide) (Nat.le_of_ble_eq_true rfl) rfl rfl (Nat.le_of_ble_eq_true rfl) (Nat.le_of_ble_eq_true rfl) (sh_o hS rfl (by decide)) (c_refuse (by omega) hS ⟨_, rfl, ?_⟩)
          exact r_iret dX10_think_58 rfl ((((h.2 c1).1 c2).2 c3).1 c4)
        · refine r_iload dX10_think_40 rfl ?_
          refine r_iconst dX10_think_42 (by decide) ?_
          refine r_icmp_lt dX10_think_43 rfl (fun c5 => ?_) (fun c5 => ?_)
          · refine r_aload_n dX10_think_53 rfl ?_
            refine r_iconst dX10_think_54 (by decide) ?_
            refine r_invV_i dX10_think_55 kM10_262 (by decide) (Nat.le_of_ble_eq_true rfl) rfl rfl (Nat.le_of_ble_eq_true rfl) (Nat.le_of_ble_eq_true rfl) (sh_o hS rfl (by decide)) (c_refuse (by omega) hS ⟨_, rfl, ?_⟩)
            exact r_iret dX10_think_58 rfl (((((h.2 c1).1 c2).2 c3).2 c4).1 c5)
          · refine r_iload dX10_think_46 rfl ?_
            refine r_bipush dX10_think_48 (by decide) ?_
            refine r_icmp_le dX10_think_50 rfl (fun c6 => ?_) (fun c6 => ?_)
            · refine r_aload_n dX10_think_59 rfl ?_
              refine r_getS (v := 29) dX10_think_60 kF10_50 (sh_o hS rfl (by decide)) (sh_f hS rfl (by decide)) ?_
              refine r_iload_n dX10_think_63 rfl ?_
              refine r_iload_n dX10_think_64 rfl ?_
              refine r_invV_i dX10_think_65 kM10_241 (by decide) (Nat.le_of_ble_eq_true rfl) rfl rfl (Nat.le_of_ble_eq_true rfl) (Nat.le_of_ble_eq_true rfl) (sh_o hS rfl (by decide)) (c_takes (by omega) hS ⟨_, rfl, ?_⟩)
              refine r_if_ne dX10_think_68 rfl (fun c7 => ?_) (fun c7 => ?_)
              · refine r_aload_n dX10_think_77 rfl ?_
                refine r_getS (v := 33) dX10_think_78 kF10_57 (sh_o hS rfl (by decide)) (sh_f hS rfl (by decide)) ?_
                refine r_iload_n dX10_think_81 rfl ?_
                refine r_invV_i dX10_think_82 kM10_271 (by decide) (Nat.le_of_ble_eq_true rfl) rfl rfl (Nat.le_of_ble_eq_true rfl) (Nat.le_of_ble_eq_true rfl) (sh_o hS rfl (by decide)) (Call.mono (((((((h.2 c1).1 c2).2 c3).2 c4).2 c5).1 c6).1 c7) (Nat.le_refl _) ?_)
                rintro _ M9 ⟨z8, rfl, s12, h10⟩
                refine ⟨_, rfl, ?_⟩
                refine r_istore (ls2 := [some (vR 6), some (vI p), some (vI q), some (vI k), some (vI t), some (vI z8)]) dX10_think_85 (Nat.le_of_ble_eq_true rfl) rfl ?_
                refine r_iload dX10_think_87 rfl ?_
                refine r_iconst dX10_think_89 (by decide) ?_
                refine r_icmp_ne dX10_think_90 rfl (fun c13 => ?_) (fun c13 => ?_)
                · refine r_aload_n dX10_think_99 rfl ?_
                  refine r_getS (v := 65) dX10_think_100 kF10_73 (sh_o s12 rfl (by decide)) (sh_f s12 rfl (by decide)) ?_
                  refine r_aload_n dX10_think_103 rfl ?_
                  refine r_getS (v := 33) dX10_think_104 kF10_57 (sh_o s12 rfl (by decide)) (sh_f s12 rfl (by decide)) ?_
                  refine r_invV_v dX10_think_107 kM10_265 (by decide) (Nat.le_of_ble_eq_true rfl) rfl rfl (Nat.le_of_ble_eq_true rfl) (Nat.le_of_ble_eq_true rfl) (sh_o s12 rfl (by decide)) (Call.mono (h10.1 c13) (Nat.le_refl _) ?_)
                  rintro _ M15 ⟨rfl, s18, h16⟩
                  refine ⟨rfl, ?_⟩
                  refine r_aload_n dX10_think_110 rfl ?_
                  refine r_getS (v := 33) dX10_think_111 kF10_57 (sh_o s18 rfl (by decide)) (sh_f s18 rfl (by decide)) ?_
                  refine r_iload_n dX10_think_114 rfl ?_
                  refine r_iload dX10_think_115 rfl ?_
                  refine r_iload_n dX10_think_117 rfl ?_
                  refine r_iload_n dX10_think_118 rfl ?_
                  refine r_iload dX10_think_119 rfl ?_
                  refine r_invV_v dX10_think_121 kM10_274 (by decide) (Nat.le_of_ble_eq_true rfl) rfl rfl (Nat.le_of_ble_eq_true rfl) (Nat.le_of_ble_eq_true rfl) (sh_o s18 rfl (by decide)) (Call.mono h16 (Nat.le_refl _) ?_)
                  rintro _ M20 ⟨rfl, s23, h21⟩
                  refine ⟨rfl, ?_⟩
                  refine r_iload dX10_think_124 rfl ?_
                  exact r_iret dX10_think_126 rfl h21
                · refine r_aload_n dX10_think_93 rfl ?_
                  refine r_iconst dX10_think_94 (by decide) ?_
                  refine r_invV_i dX10_think_95 kM10_262 (by decide) (Nat.le_of_ble_eq_true rfl) rfl rfl (Nat.le_of_ble_eq_true rfl) (Nat.le_of_ble_eq_true rfl) (sh_o s12 rfl (by decide)) (c_refuse (by omega) s12 ⟨_, rfl, ?_⟩)
                  exact r_iret dX10_think_98 rfl (h10.2 c13)
              · refine r_aload_n dX10_think_71 rfl ?_
                refine r_iconst dX10_think_72 (by decide) ?_
                refine r_invV_i dX10_think_73 kM10_262 (by decide) (Nat.le_of_ble_eq_true rfl) rfl rfl (Nat.le_of_ble_eq_true rfl) (Nat.le_of_ble_eq_true rfl) (sh_o hS rfl (by decide)) (c_refuse (by omega) hS ⟨_, rfl, ?_⟩)
                exact r_iret dX10_think_76 rfl (((((((h.2 c1).1 c2).2 c3).2 c4).2 c5).1 c6).2 c7)
            · refine r_aload_n dX10_think_53 rfl ?_
              refine r_iconst dX10_think_54 (by decide) ?_
              refine r_invV_i dX10_think_55 kM10_262 (by decide) (Nat.le_of_ble_eq_true rfl) rfl rfl (Nat.le_of_ble_eq_true rfl) (Nat.le_of_ble_eq_true rfl) (sh_o hS rfl (by decide)) (c_refuse (by omega) hS ⟨_, rfl, ?_⟩)
              exact r_iret dX10_think_58 rfl ((((((h.2 c1).1 c2).2 c3).2 c4).2 c5).2 c6)
    · refine r_aload_n dX10_think_22 rfl ?_
      refine r_iconst dX10_think_23 (by decide) ?_
      refine r_invV_i dX10_think_24 kM10_262 (by decide) (Nat.le_of_ble_eq_true rfl) rfl rfl (Nat.le_of_ble_eq_true rfl) (Nat.le_of_ble_eq_true rfl) (sh_o hS rfl (by decide)) (c_refuse (by omega) hS ⟨_, rfl, ?_⟩)
      exact r_iret dX10_think_27 rfl ((h.2 c1).2 c2)
theorem vx_forget {e : Nat} {M : jM} {Q : Option jV → jM → Prop} {p : Int} {pl : Int} (he : 4 ≤ e) (hS : Shp M)
  (h : (((if 0 ≤ p ∧ p < iv M 29 0 then (1 : Int) else (0 : Int)) ≠ (0 : Int)) → ((((fP pl) ≠ (0 : Int)) → ((((atv M 32 34 (w32 ((w32 (p * (4 : Int))) + pl))) ≠ (-1 : Int)) → (Call e mX5_keep [vR 65, vR 33] M (fun r7 M5 => r7 = none ∧ Shp M5 ∧ (Q (some (vI (atv M 32 34 (w32 ((w32 (p * (4 : Int))) + pl))))) (ptv M5 32 34 (w32 ((w32 (p * (4 : Int))) + pl)) (-1 : Int)))))) ∧ (¬ ((atv M 32 34 (w32 ((w32 (p * (4 : Int))) + pl))) ≠ (-1 : Int)) → (Q (some (vI (-1 : Int))) (ptv M 5 28 (2 : Int) (w32 (atv M 5 28 (2 : Int) + 1))))))) ∧ (¬ ((fP pl) ≠ (0 : Int)) → (Q (some (vI (-1 : Int))) (ptv M 5 28 (1 : Int) (w32 (atv M 5 28 (1 : Int) + 1))))))) ∧ (¬ ((if 0 ≤ p ∧ p < iv M 29 0 then (1 : Int) else (0 : Int)) ≠ (0 : Int)) → (Q (some (vI (-1 : Int))) (ptv M 5 28 (0 : Int) (w32 (atv M 5 28 (0 : Int) + 1)))))) :
  Call (e + 1) mX10_forget [vR 6, vI p, vI pl] M Q := by
  show Run (e + 1) mX10_forget 0 [some (vR 6), some (vI p), some (vI pl), none, none] [] M Q
  refine r_aload_n dX10_forget_0 rfl ?_
  refine r_getS (v := 29) dX10_forget_1 kF10_50 (sh_o hS rfl (by decide)) (sh_f hS rfl (by decide)) ?_
  refine r_iload_n dX10_forget_4 rfl ?_
  refine r_invV_i dX10_forget_5 kM10_179 (by decide) (Nat.le_of_ble_eq_true rfl) rfl rfl (Nat.le_of_ble_eq_true rfl) (Nat.le_of_ble_eq_true rfl) (sh_o hS rfl (by decide)) (i_has (by omega) hS ⟨_, rfl, ?_⟩)
  refine r_if_ne dX10_forget_8 rfl (fun c1 => ?_) (fun c1 => ?_)
  · refine r_iload_n dX10_forget_17 rfl ?_
    refine r_invS_i dX10_forget_18 (by decide) kXn10_220 kM10_220 (by decide) (Nat.le_of_ble_eq_true rfl) rfl rfl (Nat.le_of_ble_eq_true rfl) (Nat.le_of_ble_eq_true rfl) (c_isPlace (by omega) ⟨_, rfl, ?_⟩)
    refine r_if_ne dX10_forget_21 rfl (fun c2 => ?_) (fun c2 => ?_)
    · refine r_iload_n dX10_forget_30 rfl ?_
      refine r_iconst dX10_forget_31 (by decide) ?_
      refine r_imul dX10_forget_32 ?_
      refine r_iload_n dX10_forget_33 rfl ?_
      refine r_iadd dX10_forget_34 ?_
      refine r_istore_n (ls2 := [some (vR 6), some (vI p), some (vI pl), some (vI (w32 ((w32 (p * (4 : Int))) + pl))), none]) dX10_forget_35 (Nat.le_of_ble_eq_true rfl) rfl ?_
      refine r_aload_n dX10_forget_36 rfl ?_
      refine r_getS (v := 33) dX10_forget_37 kF10_57 (sh_o hS rfl (by decide)) (sh_f hS rfl (by decide)) ?_
      refine r_getS (v := 34) dX10_forget_40 kF10_223 (sh_o hS rfl (by decide)) (sh_f hS rfl (by decide)) ?_
      refine r_iload_n dX10_forget_43 rfl ?_
      refine r_invS_i dX10_forget_44 (by decide) kXn10_193 kM10_193 (by decide) (Nat.le_of_ble_eq_true rfl) rfl rfl (Nat.le_of_ble_eq_true rfl) (Nat.le_of_ble_eq_true rfl) (c_at (by omega) (sh_r hS rfl (by decide)) ⟨_, rfl, ?_⟩)
      refine r_istore (ls2 := [some (vR 6), some (vI p), some (vI pl), some (vI (w32 ((w32 (p * (4 : Int))) + pl))), some (vI (atv M 32 34 (w32 ((w32 (p * (4 : Int))) + pl))))]) dX10_forget_47 (Nat.le_of_ble_eq_true rfl) rfl ?_
      refine r_iload dX10_forget_49 rfl ?_
      refine r_iconst dX10_forget_51 (by decide) ?_
      refine r_icmp_ne dX10_forget_52 rfl (fun c3 => ?_) (fun c3 => ?_)
      · refine r_aload_n dX10_forget_61 rfl ?_
        refine r_getS (v := 65) dX10_forget_62 kF10_73 (sh_o hS rfl (by decide)) (sh_f hS rfl (by decide)) ?_
        refine r_aload_n dX10_forget_65 rfl ?_
        refine r_getS (v := 33) dX10_forget_66 kF10_57 (sh_o hS rfl (by decide)) (sh_f hS rfl (by decide)) ?_
        refine r_invV_v dX10_forget_69 kM10_265 (by decide) (Nat.le_of_ble_eq_true rfl) rfl rfl (Nat.le_of_ble_eq_true rfl) (Nat.le_of_ble_eq_true rfl) (sh_o hS rfl (by decide)) (Call.mono (((h.1 c1).1 c2).1 c3) (Nat.le_refl _) ?_)
        rintro _ M5 ⟨rfl, s8, h6⟩
        refine ⟨rfl, ?_⟩
        refine r_aload_n dX10_forget_72 rfl ?_
        refine r_getS (v := 33) dX10_forget_73 kF10_57 (sh_o s8 rfl (by decide)) (sh_f s8 rfl (by decide)) ?_
        refine r_getS (v := 34) dX10_forget_76 kF10_223 (sh_o s8 rfl (by decide)) (sh_f s8 rfl (by decide)) ?_
        refine r_iload_n dX10_forget_79 rfl ?_
        refine r_iconst dX10_forget_80 (by decide) ?_
        refine r_invS_v dX10_forget_81 (by decide) kXn10_278 kM10_278 (by decide) (Nat.le_of_ble_eq_true rfl) rfl rfl (Nat.le_of_ble_eq_true rfl) (Nat.le_of_ble_eq_true rfl) (c_put (by omega) (sh_r s8 rfl (by decide)) (by decide) ⟨rfl, ?_⟩)
        refine r_iload dX10_forget_84 rfl ?_
        exact r_iret dX10_forget_86 rfl h6
      · refine r_aload_n dX10_forget_55 rfl ?_
        refine r_iconst dX10_forget_56 (by decide) ?_
        refine r_invV_i dX10_forget_57 kM10_262 (by decide) (Nat.le_of_ble_eq_true rfl) rfl rfl (Nat.le_of_ble_eq_true rfl) (Nat.le_of_ble_eq_true rfl) (sh_o hS rfl (by decide)) (c_refuse (by omega) hS ⟨_, rfl, ?_⟩)
        exact r_iret dX10_forget_60 rfl (((h.1 c1).1 c2).2 c3)
    · refine r_aload_n dX10_forget_24 rfl ?_
      refine r_iconst dX10_forget_25 (by decide) ?_
      refine r_invV_i dX10_forget_26 kM10_262 (by decide) (Nat.le_of_ble_eq_true rfl) rfl rfl (Nat.le_of_ble_eq_true rfl) (Nat.le_of_ble_eq_true rfl) (sh_o hS rfl (by decide)) (c_refuse (by omega) hS ⟨_, rfl, ?_⟩)
      exact r_iret dX10_forget_29 rfl ((h.1 c1).2 c2)
  · refine r_aload_n dX10_forget_11 rfl ?_
    refine r_iconst dX10_forget_12 (by decide) ?_
    refine r_invV_i dX10_forget_13 kM10_262 (by decide) (Nat.le_of_ble_eq_true rfl) rfl rfl (Nat.le_of_ble_eq_true rfl) (Nat.le_of_ble_eq_true rfl) (sh_o hS rfl (by decide)) (c_refuse (by omega) hS ⟨_, rfl, ?_⟩)
    exact r_iret dX10_forget_16 rfl (h.2 c1)
theorem vx_hem {e : Nat} {M : jM} {Q : Option jV → jM → Prop} {p : Int} {n : Int} (he : 4 ≤ e) (hS : Shp M)
  (h : (((if 0 ≤ p ∧ p < iv M 29 0 then (1 : Int) else (0 : Int)) ≠ (0 : Int)) → (((n < (1 : Int)) → (Q (some (vI (-1 : Int))) (ptv M 5 28 (1 : Int) (w32 (atv M 5 28 (1 : Int) + 1))))) ∧ (¬ (n < (1 : Int)) → (((n ≤ (9 : Int)) → ((((iv M 33 8) < n) → (Q (some (vI (-1 : Int))) (ptv M 5 28 (3 : Int) (w32 (atv M 5 28 (3 : Int) + 1))))) ∧ (¬ ((iv M 33 8) < n) → ((((w32 ((atv M 8 39 p) + n)) ≤ (99 : Int)) → (Call e mX5_keep [vR 65, vR 33] M (fun r9 M7 => r9 = none ∧ Shp M7 ∧ (Q (some (vI (w32 ((atv M 8 39 p) + n)))) (ptv (si M7 33 8 (w32 ((iv M7 33 8) - n))) 8 39 p (w32 ((atv M 8 39 p) + n))))))) ∧ (¬ ((w32 ((atv M 8 39 p) + n)) ≤ (99 : Int)) → (Q (some (vI (-1 : Int))) (ptv M 5 28 (3 : Int) (w32 (atv M 5 28 (3 : Int) + 1))))))))) ∧ (¬ (n ≤ (9 : Int)) → (Q (some (vI (-1 : Int))) (ptv M 5 28 (1 : Int) (w32 (atv M 5 28 (1 : Int) + 1))))))))) ∧ (¬ ((if 0 ≤ p ∧ p < iv M 29 0 then (1 : Int) else (0 : Int)) ≠ (0 : Int)) → (Q (some (vI (-1 : Int))) (ptv M 5 28 (0 : Int) (w32 (atv M 5 28 (0 : Int) + 1)))))) :
  Call (e + 1) mX10_hem [vR 6, vI p, vI n] M Q := by
  show Run (e + 1) mX10_hem 0 [some (vR 6), some (vI p), some (vI n), none] [] M Q
  refine r_aload_n dX10_hem_0 rfl ?_
  refine r_getS (v := 29) dX10_hem_1 kF10_50 (sh_o hS rfl (by decide)) (sh_f hS rfl (by decide)) ?_
  refine r_iload_n dX10_hem_4 rfl ?_
  refine r_invV_i dX10_hem_5 kM10_179 (by decide) (Nat.le_of_ble_eq_true rfl) rfl rfl (Nat.le_of_ble_eq_true rfl) (Nat.le_of_ble_eq_true rfl) (sh_o hS rfl (by decide)) (i_has (by omega) hS ⟨_, rfl, ?_⟩)
  refine r_if_ne dX10_hem_8 rfl (fun c1 => ?_) (fun c1 => ?_)
  · refine r_iload_n dX10_hem_17 rfl ?_
    refine r_iconst dX10_hem_18 (by decide) ?_
    refine r_icmp_lt dX10_hem_19 rfl (fun c2 => ?_) (fun c2 => ?_)
    · refine r_aload_n dX10_hem_28 rfl ?_
      refine r_iconst dX10_hem_29 (by decide) ?_
      refine r_invV_i dX10_hem_30 kM10_262 (by decide) (Nat.le_of_ble_eq_true rfl) rfl rfl (Nat.le_of_ble_eq_true rfl) (Nat.le_of_ble_eq_true rfl) (sh_o hS rfl (by decide)) (c_refuse (by omega) hS ⟨_, rfl, ?_⟩)
      exact r_iret dX10_hem_33 rfl ((h.1 c1).1 c2)
    · refine r_iload_n dX10_hem_22 rfl ?_
      refine r_bipush dX10_hem_23 (by decide) ?_
      refine r_icmp_le dX10_hem_25 rfl (fun c3 => ?_) (fun c3 => ?_)
      · refine r_aload_n dX10_hem_34 rfl ?_
        refine r_getS (v := 33) dX10_hem_35 kF10_57 (sh_o hS rfl (by decide)) (sh_f hS rfl (by decide)) ?_
        refine r_getS (v := 39) dX10_hem_38 kF10_190 (sh_o hS rfl (by decide)) (sh_f hS rfl (by decide)) ?_
        refine r_iload_n dX10_hem_41 rfl ?_
        refine r_invS_i dX10_hem_42 (by decide) kXn10_193 kM10_193 (by decide) (Nat.le_of_ble_eq_true rfl) rfl rfl (Nat.le_of_ble_eq_true rfl) (Nat.le_of_ble_eq_true rfl) (c_at (by omega) (sh_r hS rfl (by decide)) ⟨_, rfl, ?_⟩)
        refine r_iload_n dX10_hem_45 rfl ?_
        refine r_iadd dX10_hem_46 ?_
        refine r_istore_n (ls2 := [some (vR 6), some (vI p), some (vI n), some (vI (w32 ((atv M 8 39 p) + n)))]) dX10_hem_47 (Nat.le_of_ble_eq_true rfl) rfl ?_
        refine r_aload_n dX10_hem_48 rfl ?_
        refine r_getS (v := 33) dX10_hem_49 kF10_57 (sh_o hS rfl (by decide)) (sh_f hS rfl (by decide)) ?_
        refine r_get0 dX10_hem_52 kF10_176 (sh_o hS rfl (by decide)) ?_
        refine r_iload_n dX10_hem_55 rfl ?_
        refine r_icmp_lt dX10_hem_56 rfl (fun c4 => ?_) (fun c4 => ?_)
        · refine r_aload_n dX10_hem_65 rfl ?_
          refine r_iconst dX10_hem_66 (by decide) ?_
          refine r_invV_i dX10_hem_67 kM10_262 (by decide) (Nat.le_of_ble_eq_true rfl) rfl rfl (Nat.le_of_ble_eq_true rfl) (Nat.le_of_ble_eq_true rfl) (sh_o hS rfl (by decide)) (c_refuse (by omega) hS ⟨_, rfl, ?_⟩)
          exact r_iret dX10_hem_70 rfl ((((h.1 c1).2 c2).1 c3).1 c4)
        · refine r_iload_n dX10_hem_59 rfl ?_
          refine r_bipush dX10_hem_60 (by decide) ?_
          refine r_icmp_le dX10_hem_62 rfl (fun c5 => ?_) (fun c5 => ?_)
          · refine r_aload_n dX10_hem_71 rfl ?_
            refine r_getS (v := 65) dX10_hem_72 kF10_73 (sh_o hS rfl (by decide)) (sh_f hS rfl (by decide)) ?_
            refine r_aload_n dX10_hem_75 rfl ?_
            refine r_getS (v := 33) dX10_hem_76 kF10_57 (sh_o hS rfl (by decide)) (sh_f hS rfl (by decide)) ?_
            refine r_invV_v dX10_hem_79 kM10_265 (by decide) (Nat.le_of_ble_eq_true rfl) rfl rfl (Nat.le_of_ble_eq_true rfl) (Nat.le_of_ble_eq_true rfl) (sh_o hS rfl (by decide)) (Call.mono (((((h.1 c1).2 c2).1 c3).2 c4).1 c5) (Nat.le_refl _) ?_)
            rintro _ M7 ⟨rfl, s10, h8⟩
            refine ⟨rfl, ?_⟩
            refine r_aload_n dX10_hem_82 rfl ?_
            refine r_getS (v := 33) dX10_hem_83 kF10_57 (sh_o s10 rfl (by decide)) (sh_f s10 rfl (by decide)) ?_
            refine r_dupR dX10_hem_86 ?_
            refine r_get0 dX10_hem_87 kF10_176 (sh_o s10 rfl (by decide)) ?_
            refine r_iload_n dX10_hem_90 rfl ?_
            refine r_isub dX10_hem_91 ?_
            refine r_put0 dX10_hem_92 kF10_176 (sh_o s10 rfl (by decide)) (Or.inl rfl) ?_
            refine r_aload_n dX10_hem_95 rfl ?_
            refine r_getS (v := 33) dX10_hem_96 kF10_57 (sh_o s10 rfl (by decide)) (sh_f s10 rfl (by decide)) ?_
            refine r_getS (v := 39) dX10_hem_99 kF10_190 (sh_o s10 rfl (by decide)) (sh_f s10 rfl (by decide)) ?_
            refine r_iload_n dX10_hem_102 rfl ?_
            refine r_iload_n dX10_hem_103 rfl ?_
            refine r_invS_v dX10_hem_104 (by decide) kXn10_278 kM10_278 (by decide) (Nat.le_of_ble_eq_true rfl) rfl rfl (Nat.le_of_ble_eq_true rfl) (Nat.le_of_ble_eq_true rfl) (c_put (by omega) (sh_r s10 rfl (by decide)) (by decide) ⟨rfl, ?_⟩)
            refine r_iload_n dX10_hem_107 rfl ?_
            exact r_iret dX10_hem_108 rfl h8
          · refine r_aload_n dX10_hem_65 rfl ?_
            refine r_iconst dX10_hem_66 (by decide) ?_
            refine r_invV_i dX10_hem_67 kM10_262 (by decide) (Nat.le_of_ble_eq_true rfl) rfl rfl (Nat.le_of_ble_eq_true rfl) (Nat.le_of_ble_eq_true rfl) (sh_o hS rfl (by decide)) (c_refuse (by omega) hS ⟨_, rfl, ?_⟩)
            exact r_iret dX10_hem_70 rfl (((((h.1 c1).2 c2).1 c3).2 c4).2 c5)
      · refine r_aload_n dX10_hem_28 rfl ?_
        refine r_iconst dX10_hem_29 (by decide) ?_
        refine r_invV_i dX10_hem_30 kM10_262 (by decide) (Nat.le_of_ble_eq_true rfl) rfl rfl (Nat.le_of_ble_eq_true rfl) (Nat.le_of_ble_eq_true rfl) (sh_o hS rfl (by decide)) (c_refuse (by omega) hS ⟨_, rfl, ?_⟩)
        exact r_iret dX10_hem_33 rfl (((h.1 c1).2 c2).2 c3)
  · refine r_aload_n dX10_hem_11 rfl ?_
    refine r_iconst dX10_hem_12 (by decide) ?_
    refine r_invV_i dX10_hem_13 kM10_262 (by decide) (Nat.le_of_ble_eq_true rfl) rfl rfl (Nat.le_of_ble_eq_true rfl) (Nat.le_of_ble_eq_true rfl) (sh_o hS rfl (by decide)) (c_refuse (by omega) hS ⟨_, rfl, ?_⟩)
    exact r_iret dX10_hem_16 rfl (h.2 c1)
theorem vx_wind {e : Nat} {M : jM} {Q : Option jV → jM → Prop} {v : Int} (he : 4 ≤ e) (hS : Shp M)
  (h : (((if 0 < iv M 29 0 then (1 : Int) else (0 : Int)) ≠ (0 : Int)) → (((v < (0 : Int)) → (Q (some (vI (-1 : Int))) (ptv M 5 28 (1 : Int) (w32 (atv M 5 28 (1 : Int) + 1))))) ∧ (¬ (v < (0 : Int)) → (((v ≤ (9 : Int)) → (((v ≠ (iv M 33 7)) → (Call e mX5_keep [vR 65, vR 33] M (fun r8 M6 => r8 = none ∧ Shp M6 ∧ (Q (some (vI (iv M 33 7))) (si M6 33 7 v))))) ∧ (¬ (v ≠ (iv M 33 7)) → (Q (some (vI (-1 : Int))) (ptv M 5 28 (2 : Int) (w32 (atv M 5 28 (2 : Int) + 1))))))) ∧ (¬ (v ≤ (9 : Int)) → (Q (some (vI (-1 : Int))) (ptv M 5 28 (1 : Int) (w32 (atv M 5 28 (1 : Int) + 1))))))))) ∧ (¬ ((if 0 < iv M 29 0 then (1 : Int) else (0 : Int)) ≠ (0 : Int)) → (Q (some (vI (-1 : Int))) (ptv M 5 28 (0 : Int) (w32 (atv M 5 28 (0 : Int) + 1)))))) :
  Call (e + 1) mX10_wind [vR 6, vI v] M Q := by
  show Run (e + 1) mX10_wind 0 [some (vR 6), some (vI v), none] [] M Q
  refine r_aload_n dX10_wind_0 rfl ?_
  refine r_invV_i dX10_wind_1 kM10_164 (by decide) (Nat.le_of_ble_eq_true rfl) rfl rfl (Nat.le_of_ble_eq_true rfl) (Nat.le_of_ble_eq_true rfl) (sh_o hS rfl (by decide)) (c_hasIsland (by omega) hS ⟨_, rfl, ?_⟩)
  refine r_if_ne dX10_wind_4 rfl (fun c1 => ?_) (fun c1 => ?_)
  · refine r_iload_n dX10_wind_13 rfl ?_
    refine r_if_lt dX10_wind_14 rfl (fun c2 => ?_) (fun c2 => ?_)
    · refine r_aload_n dX10_wind_23 rfl ?_
      refine r_iconst dX10_wind_24 (by decide) ?_
      refine r_invV_i dX10_wind_25 kM10_262 (by decide) (Nat.le_of_ble_eq_true rfl) rfl rfl (Nat.le_of_ble_eq_true rfl) (Nat.le_of_ble_eq_true rfl) (sh_o hS rfl (by decide)) (c_refuse (by omega) hS ⟨_, rfl, ?_⟩)
      exact r_iret dX10_wind_28 rfl ((h.1 c1).1 c2)
    · refine r_iload_n dX10_wind_17 rfl ?_
      refine r_bipush dX10_wind_18 (by decide) ?_
      refine r_icmp_le dX10_wind_20 rfl (fun c3 => ?_) (fun c3 => ?_)
      · refine r_aload_n dX10_wind_29 rfl ?_
        refine r_getS (v := 33) dX10_wind_30 kF10_57 (sh_o hS rfl (by decide)) (sh_f hS rfl (by decide)) ?_
        refine r_get0 dX10_wind_33 kF10_168 (sh_o hS rfl (by decide)) ?_
        refine r_istore_n (ls2 := [some (vR 6), some (vI v), some (vI (iv M 33 7))]) dX10_wind_36 (Nat.le_of_ble_eq_true rfl) rfl ?_
        refine r_iload_n dX10_wind_37 rfl ?_
        refine r_iload_n dX10_wind_38 rfl ?_
        refine r_icmp_ne dX10_wind_39 rfl (fun c4 => ?_) (fun c4 => ?_)
        · refine r_aload_n dX10_wind_48 rfl ?_
          refine r_getS (v := 65) dX10_wind_49 kF10_73 (sh_o hS rfl (by decide)) (sh_f hS rfl (by decide)) ?_
          refine r_aload_n dX10_wind_52 rfl ?_
          refine r_getS (v := 33) dX10_wind_53 kF10_57 (sh_o hS rfl (by decide)) (sh_f hS rfl (by decide)) ?_
          refine r_invV_v dX10_wind_56 kM10_265 (by decide) (Nat.le_of_ble_eq_true rfl) rfl rfl (Nat.le_of_ble_eq_true rfl) (Nat.le_of_ble_eq_true rfl) (sh_o hS rfl (by decide)) (Call.mono ((((h.1 c1).2 c2).1 c3).1 c4) (Nat.le_refl _) ?_)
          rintro _ M6 ⟨rfl, s9, h7⟩
          refine ⟨rfl, ?_⟩
          refine r_aload_n dX10_wind_59 rfl ?_
          refine r_getS (v := 33) dX10_wind_60 kF10_57 (sh_o s9 rfl (by decide)) (sh_f s9 rfl (by decide)) ?_
          refine r_iload_n dX10_wind_63 rfl ?_
          refine r_put0 dX10_wind_64 kF10_168 (sh_o s9 rfl (by decide)) (Or.inl rfl) ?_
          refine r_iload_n dX10_wind_67 rfl ?_
          exact r_iret dX10_wind_68 rfl h7
        · refine r_aload_n dX10_wind_42 rfl ?_
          refine r_iconst dX10_wind_43 (by decide) ?_
          refine r_invV_i dX10_wind_44 kM10_262 (by decide) (Nat.le_of_ble_eq_true rfl) rfl rfl (Nat.le_of_ble_eq_true rfl) (Nat.le_of_ble_eq_true rfl) (sh_o hS rfl (by decide)) (c_refuse (by omega) hS ⟨_, rfl, ?_⟩)
          exact r_iret dX10_wind_47 rfl ((((h.1 c1).2 c2).1 c3).2 c4)
      · refine r_aload_n dX10_wind_23 rfl ?_
        refine r_iconst dX10_wind_24 (by decide) ?_
        refine r_invV_i dX10_wind_25 kM10_262 (by decide) (Nat.le_of_ble_eq_true rfl) rfl rfl (Nat.le_of_ble_eq_true rfl) (Nat.le_of_ble_eq_true rfl) (sh_o hS rfl (by decide)) (c_refuse (by omega) hS ⟨_, rfl, ?_⟩)
        exact r_iret dX10_wind_28 rfl (((h.1 c1).2 c2).2 c3)
  · refine r_aload_n dX10_wind_7 rfl ?_
    refine r_iconst dX10_wind_8 (by decide) ?_
    refine r_invV_i dX10_wind_9 kM10_262 (by decide) (Nat.le_of_ble_eq_true rfl) rfl rfl (Nat.le_of_ble_eq_true rfl) (Nat.le_of_ble_eq_true rfl) (sh_o hS rfl (by decide)) (c_refuse (by omega) hS ⟨_, rfl, ?_⟩)
    exact r_iret dX10_wind_12 rfl (h.2 c1)
theorem vx_give {e : Nat} {M : jM} {Q : Option jV → jM → Prop} {n : Int} (he : 4 ≤ e) (hS : Shp M)
  (h : (((if 0 < iv M 29 0 then (1 : Int) else (0 : Int)) ≠ (0 : Int)) → (((n < (1 : Int)) → (Q (some (vI (-1 : Int))) (ptv M 5 28 (1 : Int) (w32 (atv M 5 28 (1 : Int) + 1))))) ∧ (¬ (n < (1 : Int)) → (((n ≤ (50 : Int)) → ((((w32 ((iv M 33 8) + n)) ≤ (999 : Int)) → (Call e mX5_keep [vR 65, vR 33] M (fun r8 M6 => r8 = none ∧ Shp M6 ∧ (Q (some (vI (iv (si M6 33 8 (w32 ((iv M6 33 8) + n))) 33 8))) (si M6 33 8 (w32 ((iv M6 33 8) + n))))))) ∧ (¬ ((w32 ((iv M 33 8) + n)) ≤ (999 : Int)) → (Q (some (vI (-1 : Int))) (ptv M 5 28 (3 : Int) (w32 (atv M 5 28 (3 : Int) + 1))))))) ∧ (¬ (n ≤ (50 : Int)) → (Q (some (vI (-1 : Int))) (ptv M 5 28 (1 : Int) (w32 (atv M 5 28 (1 : Int) + 1))))))))) ∧ (¬ ((if 0 < iv M 29 0 then (1 : Int) else (0 : Int)) ≠ (0 : Int)) → (Q (some (vI (-1 : Int))) (ptv M 5 28 (0 : Int) (w32 (atv M 5 28 (0 : Int) + 1)))))) :
  Call (e + 1) mX10_give [vR 6, vI n] M Q := by
  show Run (e + 1) mX10_give 0 [some (vR 6), some (vI n)] [] M Q
  refine r_aload_n dX10_give_0 rfl ?_
  refine r_invV_i dX10_give_1 kM10_164 (by decide) (Nat.le_of_ble_eq_true rfl) rfl rfl (Nat.le_of_ble_eq_true rfl) (Nat.le_of_ble_eq_true rfl) (sh_o hS rfl (by decide)) (c_hasIsland (by omega) hS ⟨_, rfl, ?_⟩)
  refine r_if_ne dX10_give_4 rfl (fun c1 => ?_) (fun c1 => ?_)
  · refine r_iload_n dX10_give_13 rfl ?_
    refine r_iconst dX10_give_14 (by decide) ?_
    refine r_icmp_lt dX10_give_15 rfl (fun c2 => ?_) (fun c2 => ?_)
    · refine r_aload_n dX10_give_24 rfl ?_
      refine r_iconst dX10_give_25 (by decide) ?_
      refine r_invV_i dX10_give_26 kM10_262 (by decide) (Nat.le_of_ble_eq_true rfl) rfl rfl (Nat.le_of_ble_eq_true rfl) (Nat.le_of_ble_eq_true rfl) (sh_o hS rfl (by decide)) (c_refuse (by omega) hS ⟨_, rfl, ?_⟩)
      exact r_iret dX10_give_29 rfl ((h.1 c1).1 c2)
    · refine r_iload_n dX10_give_18 rfl ?_
      refine r_bipush dX10_give_19 (by decide) ?_
      refine r_icmp_le dX10_give_21 rfl (fun c3 => ?_) (fun c3 => ?_)
      · refine r_aload_n dX10_give_30 rfl ?_
        refine r_getS (v := 33) dX10_give_31 kF10_57 (sh_o hS rfl (by decide)) (sh_f hS rfl (by decide)) ?_
        refine r_get0 dX10_give_34 kF10_176 (sh_o hS rfl (by decide)) ?_
        refine r_iload_n dX10_give_37 rfl ?_
        refine r_iadd dX10_give_38 ?_
        refine r_sipush dX10_give_39 (by decide) ?_
        refine r_icmp_le dX10_give_42 rfl (fun c4 => ?_) (fun c4 => ?_)
        · refine r_aload_n dX10_give_51 rfl ?_
          refine r_getS (v := 65) dX10_give_52 kF10_73 (sh_o hS rfl (by decide)) (sh_f hS rfl (by decide)) ?_
          refine r_aload_n dX10_give_55 rfl ?_
          refine r_getS (v := 33) dX10_give_56 kF10_57 (sh_o hS rfl (by decide)) (sh_f hS rfl (by decide)) ?_
          refine r_invV_v dX10_give_59 kM10_265 (by decide) (Nat.le_of_ble_eq_true rfl) rfl rfl (Nat.le_of_ble_eq_true rfl) (Nat.le_of_ble_eq_true rfl) (sh_o hS rfl (by decide)) (Call.mono ((((h.1 c1).2 c2).1 c3).1 c4) (Nat.le_refl _) ?_)
          rintro _ M6 ⟨rfl, s9, h7⟩
          refine ⟨rfl, ?_⟩
          refine r_aload_n dX10_give_62 rfl ?_
          refine r_getS (v := 33) dX10_give_63 kF10_57 (sh_o s9 rfl (by decide)) (sh_f s9 rfl (by decide)) ?_
          refine r_dupR dX10_give_66 ?_
          refine r_get0 dX10_give_67 kF10_176 (sh_o s9 rfl (by decide)) ?_
          refine r_iload_n dX10_give_70 rfl ?_
          refine r_iadd dX10_give_71 ?_
          refine r_put0 dX10_give_72 kF10_176 (sh_o s9 rfl (by decide)) (Or.inl rfl) ?_
          refine r_aload_n dX10_give_75 rfl ?_
          refine r_getS (v := 33) dX10_give_76 kF10_57 (sh_o s9 rfl (by decide)) (sh_f s9 rfl (by decide)) ?_
          refine r_get0 dX10_give_79 kF10_176 (sh_o s9 rfl (by decide)) ?_
          exact r_iret dX10_give_82 rfl h7
        · refine r_aload_n dX10_give_45 rfl ?_
          refine r_iconst dX10_give_46 (by decide) ?_
          refine r_invV_i dX10_give_47 kM10_262 (by decide) (Nat.le_of_ble_eq_true rfl) rfl rfl (Nat.le_of_ble_eq_true rfl) (Nat.le_of_ble_eq_true rfl) (sh_o hS rfl (by decide)) (c_refuse (by omega) hS ⟨_, rfl, ?_⟩)
          exact r_iret dX10_give_50 rfl ((((h.1 c1).2 c2).1 c3).2 c4)
      · refine r_aload_n dX10_give_24 rfl ?_
        refine r_iconst dX10_give_25 (by decide) ?_
        refine r_invV_i dX10_give_26 kM10_262 (by decide) (Nat.le_of_ble_eq_true rfl) rfl rfl (Nat.le_of_ble_eq_true rfl) (Nat.le_of_ble_eq_true rfl) (sh_o hS rfl (by decide)) (c_refuse (by omega) hS ⟨_, rfl, ?_⟩)
        exact r_iret dX10_give_29 rfl (((h.1 c1).2 c2).2 c3)
  · refine r_aload_n dX10_give_7 rfl ?_
    refine r_iconst dX10_give_8 (by decide) ?_
    refine r_invV_i dX10_give_9 kM10_262 (by decide) (Nat.le_of_ble_eq_true rfl) rfl rfl (Nat.le_of_ble_eq_true rfl) (Nat.le_of_ble_eq_true rfl) (sh_o hS rfl (by decide)) (c_refuse (by omega) hS ⟨_, rfl, ?_⟩)
    exact r_iret dX10_give_12 rfl (h.2 c1)
theorem vx_years {e : Nat} {M : jM} {Q : Option jV → jM → Prop} {n : Int} {sd : Int} (he : 4 ≤ e) (hS : Shp M)
  (h : (((if 0 < iv M 29 0 then (1 : Int) else (0 : Int)) = (0 : Int)) → (Q (some (vI (-1 : Int))) M)) ∧ (¬ ((if 0 < iv M 29 0 then (1 : Int) else (0 : Int)) = (0 : Int)) → (((n < (1 : Int)) → (Q (some (vI (-1 : Int))) M)) ∧ (¬ (n < (1 : Int)) → ((((60 : Int) < n) → (Q (some (vI (-1 : Int))) M)) ∧ (¬ ((60 : Int) < n) → ((((w32 ((iv M 33 9) + n)) ≤ (9999 : Int)) → (Run (e + 1) mX10_years 43 [some (vR 6), some (vI n), some (vL sd), none, some (vI (0 : Int))] [] (sl M 6 8 sd) Q)) ∧ (¬ ((w32 ((iv M 33 9) + n)) ≤ (9999 : Int)) → (Q (some (vI (-1 : Int))) M))))))))) :
  Call (e + 1) mX10_years [vR 6, vI n, vL sd] M Q := by
  show Run (e + 1) mX10_years 0 [some (vR 6), some (vI n), some (vL sd), none, none] [] M Q
  refine r_aload_n dX10_years_0 rfl ?_
  refine r_invV_i dX10_years_1 kM10_164 (by decide) (Nat.le_of_ble_eq_true rfl) rfl rfl (Nat.le_of_ble_eq_true rfl) (Nat.le_of_ble_eq_true rfl) (sh_o hS rfl (by decide)) (c_hasIsland (by omega) hS ⟨_, rfl, ?_⟩)
  refine r_if_eq dX10_years_4 rfl (fun c1 => ?_) (fun c1 => ?_)
  · refine r_iconst dX10_years_33 (by decide) ?_
    exact r_iret dX10_years_34 rfl (h.1 c1)
  · refine r_iload_n dX10_years_7 rfl ?_
    refine r_iconst dX10_years_8 (by decide) ?_
    refine r_icmp_lt dX10_years_9 rfl (fun c2 => ?_) (fun c2 => ?_)
    · refine r_iconst dX10_years_33 (by decide) ?_
      exact r_iret dX10_years_34 rfl ((h.2 c1).1 c2)
    · refine r_iload_n dX10_years_12 rfl ?_
      refine r_bipush dX10_years_13 (by decide) ?_
      refine r_icmp_gt dX10_years_15 rfl (fun c3 => ?_) (fun c3 => ?_)
      · refine r_iconst dX10_years_33 (by decide) ?_
        exact r_iret dX10_years_34 rfl (((h.2 c1).2 c2).1 c3)
      · refine r_aload_n dX10_years_18 rfl ?_
        refine r_getS (v := 33) dX10_years_19 kF10_57 (sh_o hS rfl (by decide)) (sh_f hS rfl (by decide)) ?_
        refine r_get0 dX10_years_22 kF10_252 (sh_o hS rfl (by decide)) ?_
        refine r_iload_n dX10_years_25 rfl ?_
        refine r_iadd dX10_years_26 ?_
        refine r_sipush dX10_years_27 (by decide) ?_
        refine r_icmp_le dX10_years_30 rfl (fun c4 => ?_) (fun c4 => ?_)
        · refine r_aload_n dX10_years_35 rfl ?_
          refine r_lload_n dX10_years_36 rfl ?_
          refine r_put1 dX10_years_37 kF10_282 (sh_o hS rfl (by decide)) (Or.inl rfl) ?_
          refine r_iconst dX10_years_40 (by decide) ?_
          refine r_istore (ls2 := [some (vR 6), some (vI n), some (vL sd), none, some (vI (0 : Int))]) dX10_years_41 (Nat.le_of_ble_eq_true rfl) rfl ?_
          exact ((((h.2 c1).2 c2).2 c3).1 c4)
        · refine r_iconst dX10_years_33 (by decide) ?_
          exact r_iret dX10_years_34 rfl ((((h.2 c1).2 c2).2 c3).2 c4)
theorem vx_years_43 {e : Nat} {M : jM} {Q : Option jV → jM → Prop} {n : Int} {sd : Int} {l4 : Int}  (he : 4 ≤ e) (hS : Shp M)
  (h : ((n ≤ l4) → (Q (some (vI (iv M 33 9))) M)) ∧ (¬ (n ≤ l4) → (Call e mX5_keep [vR 65, vR 33] M (fun r9 M7 => r9 = none ∧ Shp M7 ∧ (Call e mX10_drawWhatIsAhead [vR 6] M7 (fun r14 M12 => r14 = none ∧ Shp M12 ∧ (Call e mX1_weigh [vR 29, vR 33] M12 (fun r19 M17 => r19 = none ∧ Shp M17 ∧ (Call e mX10_letAnHourPass [vR 6] M17 (fun r24 M22 => r24 = none ∧ Shp M22 ∧ (Run (e + 1) mX10_years 43 [some (vR 6), some (vI n), some (vL sd), none, some (vI (w32 (l4 + (1 : Int))))] [] M22 Q))))))))))) :
  Run (e + 1) mX10_years 43 [some (vR 6), some (vI n), some (vL sd), none, some (vI l4)] [] M Q := by
  refine r_iload dX10_years_43 rfl ?_
  refine r_iload_n dX10_years_45 rfl ?_
  refine r_icmp_ge dX10_years_46 rfl (fun c5 => ?_) (fun c5 => ?_)
  · refine r_aload_n dX10_years_85 rfl ?_
    refine r_getS (v := 33) dX10_years_86 kF10_57 (sh_o hS rfl (by decide)) (sh_f hS rfl (by decide)) ?_
    refine r_get0 dX10_years_89 kF10_252 (sh_o hS rfl (by decide)) ?_
    exact r_iret dX10_years_92 rfl (h.1 c5)
  · refine r_aload_n dX10_years_49 rfl ?_
    refine r_getS (v := 65) dX10_years_50 kF10_73 (sh_o hS rfl (by decide)) (sh_f hS rfl (by decide)) ?_
    refine r_aload_n dX10_years_53 rfl ?_
    refine r_getS (v := 33) dX10_years_54 kF10_57 (sh_o hS rfl (by decide)) (sh_f hS rfl (by decide)) ?_
    refine r_invV_v dX10_years_57 kM10_265 (by decide) (Nat.le_of_ble_eq_true rfl) rfl rfl (Nat.le_of_ble_eq_true rfl) (Nat.le_of_ble_eq_true rfl) (sh_o hS rfl (by decide)) (Call.mono (h.2 c5) (Nat.le_refl _) ?_)
    rintro _ M7 ⟨rfl, s10, h8⟩
    refine ⟨rfl, ?_⟩
    refine r_aload_n dX10_years_60 rfl ?_
    refine r_invV_v dX10_years_61 kM10_286 (by decide) (Nat.le_of_ble_eq_true rfl) rfl rfl (Nat.le_of_ble_eq_true rfl) (Nat.le_of_ble_eq_true rfl) (sh_o s10 rfl (by decide)) (Call.mono h8 (Nat.le_refl _) ?_)
    rintro _ M12 ⟨rfl, s15, h13⟩
    refine ⟨rfl, ?_⟩
    refine r_aload_n dX10_years_64 rfl ?_
    refine r_getS (v := 29) dX10_years_65 kF10_50 (sh_o s15 rfl (by decide)) (sh_f s15 rfl (by decide)) ?_
    refine r_aload_n dX10_years_68 rfl ?_
    refine r_getS (v := 33) dX10_years_69 kF10_57 (sh_o s15 rfl (by decide)) (sh_f s15 rfl (by decide)) ?_
    refine r_invV_v dX10_years_72 kM10_203 (by decide) (Nat.le_of_ble_eq_true rfl) rfl rfl (Nat.le_of_ble_eq_true rfl) (Nat.le_of_ble_eq_true rfl) (sh_o s15 rfl (by decide)) (Call.mono h13 (Nat.le_refl _) ?_)
    rintro _ M17 ⟨rfl, s20, h18⟩
    refine ⟨rfl, ?_⟩
    refine r_aload_n dX10_years_75 rfl ?_
    refine r_invV_v dX10_years_76 kM10_268 (by decide) (Nat.le_of_ble_eq_true rfl) rfl rfl (Nat.le_of_ble_eq_true rfl) (Nat.le_of_ble_eq_true rfl) (sh_o s20 rfl (by decide)) (Call.mono h18 (Nat.le_refl _) ?_)
    rintro _ M22 ⟨rfl, s25, h23⟩
    refine ⟨rfl, ?_⟩
    refine r_iinc (ls2 := [some (vR 6), some (vI n), some (vL sd), none, some (vI (w32 (l4 + (1 : Int))))]) dX10_years_79 rfl rfl ?_
    refine r_goto (tgt := 43) dX10_years_82 rfl ?_
    exact h23
theorem vx_undo {e : Nat} {M : jM} {Q : Option jV → jM → Prop}  (he : 4 ≤ e) (hS : Shp M)
  (h : Call e mX5_takeBack [vR 65, vR 33] M (fun r4 M2 => ∃ z1 : Int, r4 = some (vI z1) ∧ Shp M2 ∧ (Q (some (vI (if z1 = (0 : Int) then (-1 : Int) else iv M2 65 2))) M2))) :
  Call (e + 1) mX10_undo [vR 6] M Q := by
  show Run (e + 1) mX10_undo 0 [some (vR 6)] [] M Q
  refine r_aload_n dX10_undo_0 rfl ?_
  refine r_getS (v := 65) dX10_undo_1 kF10_73 (sh_o hS rfl (by decide)) (sh_f hS rfl (by decide)) ?_
  refine r_aload_n dX10_undo_4 rfl ?_
  refine r_getS (v := 33) dX10_undo_5 kF10_57 (sh_o hS rfl (by decide)) (sh_f hS rfl (by decide)) ?_
  refine r_invV_i dX10_undo_8 kM10_289 (by decide) (Nat.le_of_ble_eq_true rfl) rfl rfl (Nat.le_of_ble_eq_true rfl) (Nat.le_of_ble_eq_true rfl) (sh_o hS rfl (by decide)) (Call.mono h (Nat.le_refl _) ?_)
  rintro _ M2 ⟨z1, rfl, s5, h3⟩
  refine ⟨_, rfl, ?_⟩
  have K6 : Run (e + 1) mX10_undo 25 [some (vR 6)] [vI (if z1 = (0 : Int) then (-1 : Int) else iv M2 65 2)] M2 Q := by
    exact r_iret dX10_undo_25 rfl h3
  refine r_if_eq dX10_undo_11 rfl (fun q7 => ?_) (fun q7 => ?_)
  · rw [if_pos q7] at K6
    refine r_iconst dX10_undo_24 (by decide) ?_
    exact K6
  · rw [if_neg q7] at K6
    refine r_aload_n dX10_undo_14 rfl ?_
    refine r_getS (v := 65) dX10_undo_15 kF10_73 (sh_o s5 rfl (by decide)) (sh_f s5 rfl (by decide)) ?_
    refine r_get0 dX10_undo_18 kF10_258 (sh_o s5 rfl (by decide)) ?_
    refine r_goto (tgt := 25) dX10_undo_21 rfl ?_
    exact K6
theorem vx_image {e : Nat} {M : jM} {Q : Option jV → jM → Prop}  (he : 4 ≤ e) (hS : Shp M)
  (h : (((if 0 < iv M 29 0 then (1 : Int) else (0 : Int)) ≠ (0 : Int)) → (Call e mX7_copyAll [vR 57, vR 33] M (fun r5 M3 => r5 = none ∧ Shp M3 ∧ (Q (some (vI (iv (si M3 6 14 (1 : Int)) 33 9))) (si M3 6 14 (1 : Int)))))) ∧ (¬ ((if 0 < iv M 29 0 then (1 : Int) else (0 : Int)) ≠ (0 : Int)) → (Q (some (vI (-1 : Int))) M))) :
  Call (e + 1) mX10_image [vR 6] M Q := by
  show Run (e + 1) mX10_image 0 [some (vR 6)] [] M Q
  refine r_aload_n dX10_image_0 rfl ?_
  refine r_invV_i dX10_image_1 kM10_164 (by decide) (Nat.le_of_ble_eq_true rfl) rfl rfl (Nat.le_of_ble_eq_true rfl) (Nat.le_of_ble_eq_true rfl) (sh_o hS rfl (by decide)) (c_hasIsland (by omega) hS ⟨_, rfl, ?_⟩)
  refine r_if_ne dX10_image_4 rfl (fun c1 => ?_) (fun c1 => ?_)
  · refine r_aload_n dX10_image_9 rfl ?_
    refine r_getS (v := 57) dX10_image_10 kF10_67 (sh_o hS rfl (by decide)) (sh_f hS rfl (by decide)) ?_
    refine r_aload_n dX10_image_13 rfl ?_
    refine r_getS (v := 33) dX10_image_14 kF10_57 (sh_o hS rfl (by decide)) (sh_f hS rfl (by decide)) ?_
    refine r_invV_v dX10_image_17 kM10_134 (by decide) (Nat.le_of_ble_eq_true rfl) rfl rfl (Nat.le_of_ble_eq_true rfl) (Nat.le_of_ble_eq_true rfl) (sh_o hS rfl (by decide)) (Call.mono (h.1 c1) (Nat.le_refl _) ?_)
    rintro _ M3 ⟨rfl, s6, h4⟩
    refine ⟨rfl, ?_⟩
    refine r_aload_n dX10_image_20 rfl ?_
    refine r_iconst dX10_image_21 (by decide) ?_
    refine r_put3 dX10_image_22 kF10_142 (sh_o s6 rfl (by decide)) (Or.inl rfl) (by decide) ?_
    refine r_aload_n dX10_image_25 rfl ?_
    refine r_getS (v := 33) dX10_image_26 kF10_57 (sh_o s6 rfl (by decide)) (sh_f s6 rfl (by decide)) ?_
    refine r_get0 dX10_image_29 kF10_252 (sh_o s6 rfl (by decide)) ?_
    exact r_iret dX10_image_32 rfl h4
  · refine r_iconst dX10_image_7 (by decide) ?_
    exact r_iret dX10_image_8 rfl (h.2 c1)
theorem vx_back {e : Nat} {M : jM} {Q : Option jV → jM → Prop}  (he : 4 ≤ e) (hS : Shp M)
  (h : (((if 0 < iv M 29 0 then (1 : Int) else (0 : Int)) = (0 : Int)) → (Q (some (vI (-1 : Int))) M)) ∧ (¬ ((if 0 < iv M 29 0 then (1 : Int) else (0 : Int)) = (0 : Int)) → ((((iv M 6 14) ≠ (0 : Int)) → (Call e mX7_copyAll [vR 33, vR 57] M (fun r6 M4 => r6 = none ∧ Shp M4 ∧ (Call e mX5_clear [vR 65] M4 (fun r11 M9 => r11 = none ∧ Shp M9 ∧ (Q (some (vI (iv M9 33 9))) M9)))))) ∧ (¬ ((iv M 6 14) ≠ (0 : Int)) → (Q (some (vI (-1 : Int))) M))))) :
  Call (e + 1) mX10_back [vR 6] M Q := by
  show Run (e + 1) mX10_back 0 [some (vR 6)] [] M Q
  refine r_aload_n dX10_back_0 rfl ?_
  refine r_invV_i dX10_back_1 kM10_164 (by decide) (Nat.le_of_ble_eq_true rfl) rfl rfl (Nat.le_of_ble_eq_true rfl) (Nat.le_of_ble_eq_true rfl) (sh_o hS rfl (by decide)) (c_hasIsland (by omega) hS ⟨_, rfl, ?_⟩)
  refine r_if_eq dX10_back_4 rfl (fun c1 => ?_) (fun c1 => ?_)
  · refine r_iconst dX10_back_14 (by decide) ?_
    exact r_iret dX10_back_15 rfl (h.1 c1)
  · refine r_aload_n dX10_back_7 rfl ?_
    refine r_get3 dX10_back_8 kF10_142 (sh_o hS rfl (by decide)) ?_
    refine r_if_ne dX10_back_11 rfl (fun c2 => ?_) (fun c2 => ?_)
    · refine r_aload_n dX10_back_16 rfl ?_
      refine r_getS (v := 33) dX10_back_17 kF10_57 (sh_o hS rfl (by decide)) (sh_f hS rfl (by decide)) ?_
      refine r_aload_n dX10_back_20 rfl ?_
      refine r_getS (v := 57) dX10_back_21 kF10_67 (sh_o hS rfl (by decide)) (sh_f hS rfl (by decide)) ?_
      refine r_invV_v dX10_back_24 kM10_134 (by decide) (Nat.le_of_ble_eq_true rfl) rfl rfl (Nat.le_of_ble_eq_true rfl) (Nat.le_of_ble_eq_true rfl) (sh_o hS rfl (by decide)) (Call.mono ((h.2 c1).1 c2) (Nat.le_refl _) ?_)
      rintro _ M4 ⟨rfl, s7, h5⟩
      refine ⟨rfl, ?_⟩
      refine r_aload_n dX10_back_27 rfl ?_
      refine r_getS (v := 65) dX10_back_28 kF10_73 (sh_o s7 rfl (by decide)) (sh_f s7 rfl (by decide)) ?_
      refine r_invV_v dX10_back_31 kM10_138 (by decide) (Nat.le_of_ble_eq_true rfl) rfl rfl (Nat.le_of_ble_eq_true rfl) (Nat.le_of_ble_eq_true rfl) (sh_o s7 rfl (by decide)) (Call.mono h5 (Nat.le_refl _) ?_)
      rintro _ M9 ⟨rfl, s12, h10⟩
      refine ⟨rfl, ?_⟩
      refine r_aload_n dX10_back_34 rfl ?_
      refine r_getS (v := 33) dX10_back_35 kF10_57 (sh_o s12 rfl (by decide)) (sh_f s12 rfl (by decide)) ?_
      refine r_get0 dX10_back_38 kF10_252 (sh_o s12 rfl (by decide)) ?_
      exact r_iret dX10_back_41 rfl h10
    · refine r_iconst dX10_back_14 (by decide) ?_
      exact r_iret dX10_back_15 rfl ((h.2 c1).2 c2)
theorem vx_letAnHourPass {e : Nat} {M : jM} {Q : Option jV → jM → Prop}  (he : 4 ≤ e) (hS : Shp M)
  (h : Call e mX7_passHour [vR 33] M (fun r4 M2 => r4 = none ∧ Shp M2 ∧ (Call e mX1_weigh [vR 29, vR 33] M2 (fun r9 M7 => r9 = none ∧ Shp M7 ∧ (Call e mX1_floating [vR 29, vR 33] M7 (fun r14 M12 => ∃ z11 : Int, r14 = some (vI z11) ∧ Shp M12 ∧ (Call e mX1_sinking [vR 29, vR 33] M12 (fun r19 M17 => ∃ z16 : Int, r19 = some (vI z16) ∧ Shp M17 ∧ (Call e mX7_note [vR 33, vI z11, vI z16] M17 (fun r24 M22 => r24 = none ∧ Shp M22 ∧ (Q none M22))))))))))) :
  Call (e + 1) mX10_letAnHourPass [vR 6] M Q := by
  show Run (e + 1) mX10_letAnHourPass 0 [some (vR 6)] [] M Q
  refine r_aload_n dX10_letAnHourPass_0 rfl ?_
  refine r_getS (v := 33) dX10_letAnHourPass_1 kF10_57 (sh_o hS rfl (by decide)) (sh_f hS rfl (by decide)) ?_
  refine r_invV_v dX10_letAnHourPass_4 kM10_293 (by decide) (Nat.le_of_ble_eq_true rfl) rfl rfl (Nat.le_of_ble_eq_true rfl) (Nat.le_of_ble_eq_true rfl) (sh_o hS rfl (by decide)) (Call.mono h (Nat.le_refl _) ?_)
  rintro _ M2 ⟨rfl, s5, h3⟩
  refine ⟨rfl, ?_⟩
  refine r_aload_n dX10_letAnHourPass_7 rfl ?_
  refine r_getS (v := 29) dX10_letAnHourPass_8 kF10_50 (sh_o s5 rfl (by decide)) (sh_f s5 rfl (by decide)) ?_
  refine r_aload_n dX10_letAnHourPass_11 rfl ?_
  refine r_getS (v := 33) dX10_letAnHourPass_12 kF10_57 (sh_o s5 rfl (by decide)) (sh_f s5 rfl (by decide)) ?_
  refine r_invV_v dX10_letAnHourPass_15 kM10_203 (by decide) (Nat.le_of_ble_eq_true rfl) rfl rfl (Nat.le_of_ble_eq_true rfl) (Nat.le_of_ble_eq_true rfl) (sh_o s5 rfl (by decide)) (Call.mono h3 (Nat.le_refl _) ?_)
  rintro _ M7 ⟨rfl, s10, h8⟩
  refine ⟨rfl, ?_⟩
  refine r_aload_n dX10_letAnHourPass_18 rfl ?_
  refine r_getS (v := 33) dX10_letAnHourPass_19 kF10_57 (sh_o s10 rfl (by decide)) (sh_f s10 rfl (by decide)) ?_
  refine r_aload_n dX10_letAnHourPass_22 rfl ?_
  refine r_getS (v := 29) dX10_letAnHourPass_23 kF10_50 (sh_o s10 rfl (by decide)) (sh_f s10 rfl (by decide)) ?_
  refine r_aload_n dX10_letAnHourPass_26 rfl ?_
  refine r_getS (v := 33) dX10_letAnHourPass_27 kF10_57 (sh_o s10 rfl (by decide)) (sh_f s10 rfl (by decide)) ?_
  refine r_invV_i dX10_letAnHourPass_30 kM10_296 (by decide) (Nat.le_of_ble_eq_true rfl) rfl rfl (Nat.le_of_ble_eq_true rfl) (Nat.le_of_ble_eq_true rfl) (sh_o s10 rfl (by decide)) (Call.mono h8 (Nat.le_refl _) ?_)
  rintro _ M12 ⟨z11, rfl, s15, h13⟩
  refine ⟨_, rfl, ?_⟩
  refine r_aload_n dX10_letAnHourPass_33 rfl ?_
  refine r_getS (v := 29) dX10_letAnHourPass_34 kF10_50 (sh_o s15 rfl (by decide)) (sh_f s15 rfl (by decide)) ?_
  refine r_aload_n dX10_letAnHourPass_37 rfl ?_
  refine r_getS (v := 33) dX10_letAnHourPass_38 kF10_57 (sh_o s15 rfl (by decide)) (sh_f s15 rfl (by decide)) ?_
  refine r_invV_i dX10_letAnHourPass_41 kM10_300 (by decide) (Nat.le_of_ble_eq_true rfl) rfl rfl (Nat.le_of_ble_eq_true rfl) (Nat.le_of_ble_eq_true rfl) (sh_o s15 rfl (by decide)) (Call.mono h13 (Nat.le_refl _) ?_)
  rintro _ M17 ⟨z16, rfl, s20, h18⟩
  refine ⟨_, rfl, ?_⟩
  refine r_invV_v dX10_letAnHourPass_44 kM10_303 (by decide) (Nat.le_of_ble_eq_true rfl) rfl rfl (Nat.le_of_ble_eq_true rfl) (Nat.le_of_ble_eq_true rfl) (sh_o s20 rfl (by decide)) (Call.mono h18 (Nat.le_refl _) ?_)
  rintro _ M22 ⟨rfl, s25, h23⟩
  refine ⟨rfl, ?_⟩
  exact r_vret dX10_letAnHourPass_47 rfl h23
theorem vx_drawWhatIsAhead {e : Nat} {M : jM} {Q : Option jV → jM → Prop}  (he : 4 ≤ e) (hS : Shp M)
  (h : Call e mX10_draw [vR 6, vI (10 : Int)] M (fun r4 M2 => ∃ z1 : Int, r4 = some (vI z1) ∧ Shp M2 ∧ (Call e mX10_draw [vR 6, vI (10 : Int)] (si M2 33 7 z1) (fun r9 M7 => ∃ z6 : Int, r9 = some (vI z6) ∧ Shp M7 ∧ (((z6 < (iv M7 6 6)) → (Call e mX10_draw [vR 6, vI (iv M7 29 0)] M7 (fun r15 M13 => ∃ z12 : Int, r15 = some (vI z12) ∧ Shp M13 ∧ (Call e mX10_draw [vR 6, vI (iv M13 29 0)] M13 (fun r20 M18 => ∃ z17 : Int, r20 = some (vI z17) ∧ Shp M18 ∧ (Call e mX10_draw [vR 6, vI (3 : Int)] M18 (fun r25 M23 => ∃ z22 : Int, r25 = some (vI z22) ∧ Shp M23 ∧ (Call e mX10_draw [vR 6, vI (9 : Int)] M23 (fun r30 M28 => ∃ z27 : Int, r30 = some (vI z27) ∧ Shp M28 ∧ (((z12 = z17) → (Q none M28)) ∧ (¬ (z12 = z17) → ((((fG (atv M28 8 31 z12) z22) = (0 : Int)) → (Q none M28)) ∧ (¬ ((fG (atv M28 8 31 z12) z22) = (0 : Int)) → (Call e mX7_emptyPlace [vR 33, vI z12] M28 (fun r37 M35 => ∃ z34 : Int, r37 = some (vI z34) ∧ Shp M35 ∧ (Call e mX7_lay [vR 33, vI z12, vI z34, vI z17, vI z22, vI (w32 (z27 + (1 : Int)))] M35 (fun r42 M40 => r42 = none ∧ Shp M40 ∧ (Q none M40)))))))))))))))))) ∧ (¬ (z6 < (iv M7 6 6)) → (Q none M7))))))) :
  Call (e + 1) mX10_drawWhatIsAhead [vR 6] M Q := by
  show Run (e + 1) mX10_drawWhatIsAhead 0 [some (vR 6), none, none, none, none] [] M Q
  refine r_aload_n dX10_drawWhatIsAhead_0 rfl ?_
  refine r_getS (v := 33) dX10_drawWhatIsAhead_1 kF10_57 (sh_o hS rfl (by decide)) (sh_f hS rfl (by decide)) ?_
  refine r_aload_n dX10_drawWhatIsAhead_4 rfl ?_
  refine r_bipush dX10_drawWhatIsAhead_5 (by decide) ?_
  refine r_invV_i dX10_drawWhatIsAhead_7 kM10_307 (by decide) (Nat.le_of_ble_eq_true rfl) rfl rfl (Nat.le_of_ble_eq_true rfl) (Nat.le_of_ble_eq_true rfl) (sh_o hS rfl (by decide)) (Call.mono h (Nat.le_refl _) ?_)
  rintro _ M2 ⟨z1, rfl, s5, h3⟩
  refine ⟨_, rfl, ?_⟩
  refine r_put0 dX10_drawWhatIsAhead_10 kF10_168 (sh_o s5 rfl (by decide)) (Or.inl rfl) ?_
  refine r_aload_n dX10_drawWhatIsAhead_13 rfl ?_
  refine r_bipush dX10_drawWhatIsAhead_14 (by decide) ?_
  refine r_invV_i dX10_drawWhatIsAhead_16 kM10_307 (by decide) (Nat.le_of_ble_eq_true rfl) rfl rfl (Nat.le_of_ble_eq_true rfl) (Nat.le_of_ble_eq_true rfl) (sh_o s5 rfl (by decide)) (Call.mono h3 (Nat.le_refl _) ?_)
  rintro _ M7 ⟨z6, rfl, s10, h8⟩
  refine ⟨_, rfl, ?_⟩
  refine r_aload_n dX10_drawWhatIsAhead_19 rfl ?_
  refine r_get0 dX10_drawWhatIsAhead_20 kF10_40 (sh_o s10 rfl (by decide)) ?_
  refine r_icmp_lt dX10_drawWhatIsAhead_23 rfl (fun c11 => ?_) (fun c11 => ?_)
  · refine r_aload_n dX10_drawWhatIsAhead_27 rfl ?_
    refine r_aload_n dX10_drawWhatIsAhead_28 rfl ?_
    refine r_getS (v := 29) dX10_drawWhatIsAhead_29 kF10_50 (sh_o s10 rfl (by decide)) (sh_f s10 rfl (by decide)) ?_
    refine r_get0 dX10_drawWhatIsAhead_32 kF10_146 (sh_o s10 rfl (by decide)) ?_
    refine r_invV_i dX10_drawWhatIsAhead_35 kM10_307 (by decide) (Nat.le_of_ble_eq_true rfl) rfl rfl (Nat.le_of_ble_eq_true rfl) (Nat.le_of_ble_eq_true rfl) (sh_o s10 rfl (by decide)) (Call.mono (h8.1 c11) (Nat.le_refl _) ?_)
    rintro _ M13 ⟨z12, rfl, s16, h14⟩
    refine ⟨_, rfl, ?_⟩
    refine r_istore_n (ls2 := [some (vR 6), some (vI z12), none, none, none]) dX10_drawWhatIsAhead_38 (Nat.le_of_ble_eq_true rfl) rfl ?_
    refine r_aload_n dX10_drawWhatIsAhead_39 rfl ?_
    refine r_aload_n dX10_drawWhatIsAhead_40 rfl ?_
    refine r_getS (v := 29) dX10_drawWhatIsAhead_41 kF10_50 (sh_o s16 rfl (by decide)) (sh_f s16 rfl (by decide)) ?_
    refine r_get0 dX10_drawWhatIsAhead_44 kF10_146 (sh_o s16 rfl (by decide)) ?_
    refine r_invV_i dX10_drawWhatIsAhead_47 kM10_307 (by decide) (Nat.le_of_ble_eq_true rfl) rfl rfl (Nat.le_of_ble_eq_true rfl) (Nat.le_of_ble_eq_true rfl) (sh_o s16 rfl (by decide)) (Call.mono h14 (Nat.le_refl _) ?_)
    rintro _ M18 ⟨z17, rfl, s21, h19⟩
    refine ⟨_, rfl, ?_⟩
    refine r_istore_n (ls2 := [some (vR 6), some (vI z12), some (vI z17), none, none]) dX10_drawWhatIsAhead_50 (Nat.le_of_ble_eq_true rfl) rfl ?_
    refine r_aload_n dX10_drawWhatIsAhead_51 rfl ?_
    refine r_iconst dX10_drawWhatIsAhead_52 (by decide) ?_
    refine r_invV_i dX10_drawWhatIsAhead_53 kM10_307 (by decide) (Nat.le_of_ble_eq_true rfl) rfl rfl (Nat.le_of_ble_eq_true rfl) (Nat.le_of_ble_eq_true rfl) (sh_o s21 rfl (by decide)) (Call.mono h19 (Nat.le_refl _) ?_)
    rintro _ M23 ⟨z22, rfl, s26, h24⟩
    refine ⟨_, rfl, ?_⟩
    refine r_istore_n (ls2 := [some (vR 6), some (vI z12), some (vI z17), some (vI z22), none]) dX10_drawWhatIsAhead_56 (Nat.le_of_ble_eq_true rfl) rfl ?_
    refine r_aload_n dX10_drawWhatIsAhead_57 rfl ?_
    refine r_bipush dX10_drawWhatIsAhead_58 (by decide) ?_
    refine r_invV_i dX10_drawWhatIsAhead_60 kM10_307 (by decide) (Nat.le_of_ble_eq_true rfl) rfl rfl (Nat.le_of_ble_eq_true rfl) (Nat.le_of_ble_eq_true rfl) (sh_o s26 rfl (by decide)) (Call.mono h24 (Nat.le_refl _) ?_)
    rintro _ M28 ⟨z27, rfl, s31, h29⟩
    refine ⟨_, rfl, ?_⟩
    refine r_iconst dX10_drawWhatIsAhead_63 (by decide) ?_
    refine r_iadd dX10_drawWhatIsAhead_64 ?_
    refine r_istore (ls2 := [some (vR 6), some (vI z12), some (vI z17), some (vI z22), some (vI (w32 (z27 + (1 : Int))))]) dX10_drawWhatIsAhead_65 (Nat.le_of_ble_eq_true rfl) rfl ?_
    refine r_iload_n dX10_drawWhatIsAhead_67 rfl ?_
    refine r_iload_n dX10_drawWhatIsAhead_68 rfl ?_
    refine r_icmp_eq dX10_drawWhatIsAhead_69 rfl (fun c32 => ?_) (fun c32 => ?_)
    · exact r_vret dX10_drawWhatIsAhead_104 rfl (h29.1 c32)
    · refine r_aload_n dX10_drawWhatIsAhead_72 rfl ?_
      refine r_getS (v := 29) dX10_drawWhatIsAhead_73 kF10_50 (sh_o s31 rfl (by decide)) (sh_f s31 rfl (by decide)) ?_
      refine r_iload_n dX10_drawWhatIsAhead_76 rfl ?_
      refine r_iload_n dX10_drawWhatIsAhead_77 rfl ?_
      refine r_invV_i dX10_drawWhatIsAhead_78 kM10_241 (by decide) (Nat.le_of_ble_eq_true rfl) rfl rfl (Nat.le_of_ble_eq_true rfl) (Nat.le_of_ble_eq_true rfl) (sh_o s31 rfl (by decide)) (c_takes (by omega) s31 ⟨_, rfl, ?_⟩)
      refine r_if_eq dX10_drawWhatIsAhead_81 rfl (fun c33 => ?_) (fun c33 => ?_)
      · exact r_vret dX10_drawWhatIsAhead_104 rfl ((h29.2 c32).1 c33)
      · refine r_aload_n dX10_drawWhatIsAhead_84 rfl ?_
        refine r_getS (v := 33) dX10_drawWhatIsAhead_85 kF10_57 (sh_o s31 rfl (by decide)) (sh_f s31 rfl (by decide)) ?_
        refine r_iload_n dX10_drawWhatIsAhead_88 rfl ?_
        refine r_aload_n dX10_drawWhatIsAhead_89 rfl ?_
        refine r_getS (v := 33) dX10_drawWhatIsAhead_90 kF10_57 (sh_o s31 rfl (by decide)) (sh_f s31 rfl (by decide)) ?_
        refine r_iload_n dX10_drawWhatIsAhead_93 rfl ?_
        refine r_invV_i dX10_drawWhatIsAhead_94 kM10_271 (by decide) (Nat.le_of_ble_eq_true rfl) rfl rfl (Nat.le_of_ble_eq_true rfl) (Nat.le_of_ble_eq_true rfl) (sh_o s31 rfl (by decide)) (Call.mono ((h29.2 c32).2 c33) (Nat.le_refl _) ?_)
        rintro _ M35 ⟨z34, rfl, s38, h36⟩
        refine ⟨_, rfl, ?_⟩
        refine r_iload_n dX10_drawWhatIsAhead_97 rfl ?_
        refine r_iload_n dX10_drawWhatIsAhead_98 rfl ?_
        refine r_iload dX10_drawWhatIsAhead_99 rfl ?_
        refine r_invV_v dX10_drawWhatIsAhead_101 kM10_274 (by decide) (Nat.le_of_ble_eq_true rfl) rfl rfl (Nat.le_of_ble_eq_true rfl) (Nat.le_of_ble_eq_true rfl) (sh_o s38 rfl (by decide)) (Call.mono h36 (Nat.le_refl _) ?_)
        rintro _ M40 ⟨rfl, s43, h41⟩
        refine ⟨rfl, ?_⟩
        exact r_vret dX10_drawWhatIsAhead_104 rfl h41
  · exact r_vret dX10_drawWhatIsAhead_26 rfl (h8.2 c11)
theorem vx_draw {e : Nat} {M : jM} {Q : Option jV → jM → Prop} {n : Int} (he : 4 ≤ e) (hS : Shp M)
  (h : (((1 : Int) ≤ n) → (n ≠ 0 ∧ (Q (some (vI (w32 (jremL (jushrL (lg (sl M 6 8 (w64 ((w64 ((lg M 6 8) * (6364136223846793005 : Int))) + (1442695040888963407 : Int)))) 6 8) (33 : Int)) n)))) (sl M 6 8 (w64 ((w64 ((lg M 6 8) * (6364136223846793005 : Int))) + (1442695040888963407 : Int))))))) ∧ (¬ ((1 : Int) ≤ n) → (Q (some (vI (0 : Int))) (sl M 6 8 (w64 ((w64 ((lg M 6 8) * (6364136223846793005 : Int))) + (1442695040888963407 : Int))))))) :
  Call (e + 1) mX10_draw [vR 6, vI n] M Q := by
  show Run (e + 1) mX10_draw 0 [some (vR 6), some (vI n)] [] M Q
  refine r_aload_n dX10_draw_0 rfl ?_
  refine r_aload_n dX10_draw_1 rfl ?_
  refine r_get1 dX10_draw_2 kF10_282 (sh_o hS rfl (by decide)) ?_
  refine r_ldc2 dX10_draw_5 kL10_310 ?_
  refine r_lmul dX10_draw_8 ?_
  refine r_ldc2 dX10_draw_9 kL10_312 ?_
  refine r_ladd dX10_draw_12 ?_
  refine r_put1 dX10_draw_13 kF10_282 (sh_o hS rfl (by decide)) (Or.inl rfl) ?_
  refine r_iload_n dX10_draw_16 rfl ?_
  refine r_iconst dX10_draw_17 (by decide) ?_
  refine r_icmp_ge dX10_draw_18 rfl (fun c1 => ?_) (fun c1 => ?_)
  · refine r_aload_n dX10_draw_25 rfl ?_
    refine r_get1 dX10_draw_26 kF10_282 (sh_o hS rfl (by decide)) ?_
    refine r_bipush dX10_draw_29 (by decide) ?_
    refine r_lushr dX10_draw_31 ?_
    refine r_iload_n dX10_draw_32 rfl ?_
    refine r_i2l dX10_draw_33 ?_
    refine r_lrem dX10_draw_34 (h.1 c1).1 ?_
    refine r_l2i dX10_draw_35 ?_
    exact r_iret dX10_draw_36 rfl (h.1 c1).2
  · refine r_iconst dX10_draw_21 (by decide) ?_
    refine r_goto (tgt := 36) dX10_draw_22 rfl ?_
    exact r_iret dX10_draw_36 rfl (h.2 c1)
