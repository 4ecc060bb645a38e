theorem vn_rule {e : Nat} {M : jM} {Q : Option jV → jM → Prop} {w : Int} (he : 6 ≤ e) (hS : Shp M)
  (h : (((iv M 468 25) = (0 : Int)) → (Q (some (vI (-1 : Int))) M)) ∧ (¬ ((iv M 468 25) = (0 : Int)) → ((((fIn w (0 : Int) (3 : Int)) ≠ (0 : Int)) → (((w ≠ (0 : Int)) → (((w ≠ (3 : Int)) → ((0 ≤ w ∧ w < 4) ∧ (Q (some (vI (iv M 482 (w).toNat))) M))) ∧ (¬ (w ≠ (3 : Int)) → (Q (some (vI (iv M 486 169))) M)))) ∧ (¬ (w ≠ (0 : Int)) → (Q (some (vI (iv M 486 168))) M)))) ∧ (¬ ((fIn w (0 : Int) (3 : Int)) ≠ (0 : Int)) → (Q (some (vI (-1 : Int))) M))))) :
  Call (e + 1) mX11_rule [vR 468, vI w] M Q := by
  show Run (e + 1) mX11_rule 0 [some (vR 468), some (vI w)] [] M Q
  refine r_aload_n dX11_rule_0 rfl ?_
  refine r_get0 dX11_rule_1 kF11_287 (sh_o hS kk468 (by decide)) ?_
  refine r_if_eq dX11_rule_4 rfl (fun c1 => ?_) (fun c1 => ?_)
  · refine r_iconst dX11_rule_16 (by decide) ?_
    exact r_iret dX11_rule_17 rfl (h.1 c1)
  · refine r_iload_n dX11_rule_7 rfl ?_
    refine r_iconst dX11_rule_8 (by decide) ?_
    refine r_iconst dX11_rule_9 (by decide) ?_
    refine r_invS_i dX11_rule_10 (by decide) kXn11_224 kM11_224 (by decide) (Nat.le_of_ble_eq_true rfl) rfl rfl (Nat.le_of_ble_eq_true rfl) (Nat.le_of_ble_eq_true rfl) (m_in (by omega) hS ⟨_, rfl, ?_⟩)
    refine r_if_ne dX11_rule_13 rfl (fun c2 => ?_) (fun c2 => ?_)
    · refine r_iload_n dX11_rule_18 rfl ?_
      refine r_if_ne dX11_rule_19 rfl (fun c3 => ?_) (fun c3 => ?_)
      · refine r_iload_n dX11_rule_33 rfl ?_
        refine r_iconst dX11_rule_34 (by decide) ?_
        refine r_icmp_ne dX11_rule_35 rfl (fun c4 => ?_) (fun c4 => ?_)
        · refine r_aload_n dX11_rule_49 rfl ?_
          refine r_getS (v := 482) dX11_rule_50 kF11_49 (sh_o hS kk468 (by decide)) (sh_f hS rr468_22 (by decide)) ?_
          refine r_iload_n dX11_rule_53 rfl ?_
          have ob5 := ((((h.2 c1).1 c2).1 c3).1 c4).1
          refine r_iaload dX11_rule_54 (jro_ix (sh_r hS kk482 (by decide)) ob5) ?_
          exact r_iret dX11_rule_55 rfl ((((h.2 c1).1 c2).1 c3).1 c4).2
        · refine r_aload_n dX11_rule_38 rfl ?_
          refine r_getS (v := 486) dX11_rule_39 kF11_61 (sh_o hS kk468 (by decide)) (sh_f hS rr468_28 (by decide)) ?_
          refine r_sipush dX11_rule_42 (by decide) ?_
          refine r_ialoadK (k := 169) dX11_rule_45 rfl (jro_ix (n := 352) (sh_r hS kk486 (by decide)) (by decide)) ?_
          refine r_goto (tgt := 55) dX11_rule_46 rfl ?_
          exact r_iret dX11_rule_55 rfl ((((h.2 c1).1 c2).1 c3).2 c4)
      · refine r_aload_n dX11_rule_22 rfl ?_
        refine r_getS (v := 486) dX11_rule_23 kF11_61 (sh_o hS kk468 (by decide)) (sh_f hS rr468_28 (by decide)) ?_
        refine r_sipush dX11_rule_26 (by decide) ?_
        refine r_ialoadK (k := 168) dX11_rule_29 rfl (jro_ix (n := 352) (sh_r hS kk486 (by decide)) (by decide)) ?_
        refine r_goto (tgt := 55) dX11_rule_30 rfl ?_
        exact r_iret dX11_rule_55 rfl (((h.2 c1).1 c2).2 c3)
    · refine r_iconst dX11_rule_16 (by decide) ?_
      exact r_iret dX11_rule_17 rfl ((h.2 c1).2 c2)
theorem vn_person {e : Nat} {M : jM} {Q : Option jV → jM → Prop} {p : Int} {w : Int} (he : 6 ≤ e) (hS : Shp M)
  (h : ∀ N1 : jM, N1 = (si M 468 0 (if (fIn p 0 (w32 (iv M 468 25 - 1))) = (0 : Int) then (1 : Int) else (if (fIn w (0 : Int) (5 : Int)) = (0 : Int) then (1 : Int) else (0 : Int)))) → Shp N1 → ((((iv N1 468 0) ≠ (1 : Int)) → ((w = 0 → ((0 ≤ (w32 ((160 : Int) + p)) ∧ (w32 ((160 : Int) + p)) < 352) ∧ (Q (some (vI (iv N1 486 (w32 ((160 : Int) + p)).toNat))) N1))) ∧ (w = 1 → ((0 ≤ (w32 ((w32 ((3 : Int) * p)) + w)) ∧ (w32 ((w32 ((3 : Int) * p)) + w)) < 24) ∧ (Q (some (vI (iv N1 483 (w32 ((w32 ((3 : Int) * p)) + w)).toNat))) N1))) ∧ (w = 2 → ((0 ≤ (w32 ((w32 ((3 : Int) * p)) + w)) ∧ (w32 ((w32 ((3 : Int) * p)) + w)) < 24) ∧ (Q (some (vI (iv N1 483 (w32 ((w32 ((3 : Int) * p)) + w)).toNat))) N1))) ∧ (w = 3 → (Call e mX11_weightOf [vR 468, vI p] N1 (fun r11 M9 => ∃ z8 : Int, r11 = some (vL z8) ∧ Shp M9 ∧ (Q (some (vI (fTm z8))) M9)))) ∧ (w = 4 → (Call e mX11_heftOf [vR 468, vI p] N1 (fun r16 M14 => ∃ z13 : Int, r16 = some (vI z13) ∧ Shp M14 ∧ (Q (some (vI z13)) M14)))) ∧ (w = 5 → (Call e mX11_grainOf [vR 468, vI p] N1 (fun r21 M19 => ∃ z18 : Int, r21 = some (vI z18) ∧ Shp M19 ∧ (Q (some (vI z18)) M19)))) ∧ ((w < 0 ∨ 5 < w) → ((0 ≤ (w32 ((w32 ((3 : Int) * p)) + w)) ∧ (w32 ((w32 ((3 : Int) * p)) + w)) < 24) ∧ (Q (some (vI (iv N1 483 (w32 ((w32 ((3 : Int) * p)) + w)).toNat))) N1))))) ∧ (¬ ((iv N1 468 0) ≠ (1 : Int)) → (Q (some (vI (0 : Int))) N1)))) :
  Call (e + 1) mX11_person [vR 468, vI p, vI w] M Q := by
  show Run (e + 1) mX11_person 0 [some (vR 468), some (vI p), some (vI w)] [] M Q
  refine r_aload_n dX11_person_0 rfl ?_
  refine r_aload_n dX11_person_1 rfl ?_
  refine r_iload_n dX11_person_2 rfl ?_
  refine r_invV_i dX11_person_3 kM11_309 (by decide) (Nat.le_of_ble_eq_true rfl) rfl rfl (Nat.le_of_ble_eq_true rfl) (Nat.le_of_ble_eq_true rfl) (sh_o hS kk468 (by decide)) (m_isPerson (by omega) hS ⟨_, rfl, ?_⟩)
  have K24 : Run (e + 1) mX11_person 23 [some (vR 468), some (vI p), some (vI w)] [vI (if (fIn p 0 (w32 (iv M 468 25 - 1))) = (0 : Int) then (1 : Int) else (if (fIn w (0 : Int) (5 : Int)) = (0 : Int) then (1 : Int) else (0 : Int))), vR 468] M Q := by
    refine r_put0 dX11_person_23 kF11_109 (sh_o hS kk468 (by decide)) (Or.inl rfl) ?_
    have K26 : ∀ N1 : jM, N1 = (si M 468 0 (if (fIn p 0 (w32 (iv M 468 25 - 1))) = (0 : Int) then (1 : Int) else (if (fIn w (0 : Int) (5 : Int)) = (0 : Int) then (1 : Int) else (0 : Int)))) → Run (e + 1) mX11_person 26 [some (vR 468), some (vI p), some (vI w)] [] N1 Q := by
      intro N1 hN25
      have sN2 : Shp N1 := by rw [hN25]; exact hS
      refine r_aload_n dX11_person_26 rfl ?_
      refine r_get0 dX11_person_27 kF11_109 (sh_o sN2 kk468 (by decide)) ?_
      refine r_iconst dX11_person_30 (by decide) ?_
      refine r_icmp_ne dX11_person_31 rfl (fun c3 => ?_) (fun c3 => ?_)
      · refine r_iload_n dX11_person_36 rfl ?_
        by_cases c4 : w < 0 ∨ 5 < w
        · refine r_tab_out (tgt := 108) dX11_person_37 c4 rfl ?_
          refine r_aload_n dX11_person_108 rfl ?_
          refine r_getS (v := 483) dX11_person_109 kF11_52 (sh_o sN2 kk468 (by decide)) (sh_f sN2 rr468_23 (by decide)) ?_
          refine r_iconst dX11_person_112 (by decide) ?_
          refine r_iload_n dX11_person_113 rfl ?_
          refine r_imul dX11_person_114 ?_
          refine r_iload_n dX11_person_115 rfl ?_
          refine r_iadd dX11_person_116 ?_
          have ob23 := (((h N1 hN25 sN2).1 c3).2.2.2.2.2.2 c4).1
          refine r_iaload dX11_person_117 (jro_ix (sh_r sN2 kk483 (by decide)) ob23) ?_
          exact r_iret dX11_person_118 rfl (((h N1 hN25 sN2).1 c3).2.2.2.2.2.2 c4).2
        · rcases (show w = 0 ∨ w = 1 ∨ w = 2 ∨ w = 3 ∨ w = 4 ∨ w = 5 by omega) with c4e | c4e | c4e | c4e | c4e | c4e
          · refine r_tab_eq (tgt := 76) dX11_person_37 c4e (by decide) rfl rfl ?_
            refine r_aload_n dX11_person_76 rfl ?_
            refine r_getS (v := 486) dX11_person_77 kF11_61 (sh_o sN2 kk468 (by decide)) (sh_f sN2 rr468_28 (by decide)) ?_
            refine r_sipush dX11_person_80 (by decide) ?_
            refine r_iload_n dX11_person_83 rfl ?_
            refine r_iadd dX11_person_84 ?_
            have ob5 := (((h N1 hN25 sN2).1 c3).1 c4e).1
            refine r_iaload dX11_person_85 (jro_ix (sh_r sN2 kk486 (by decide)) ob5) ?_
            exact r_iret dX11_person_86 rfl (((h N1 hN25 sN2).1 c3).1 c4e).2
          · refine r_tab_eq (tgt := 108) dX11_person_37 c4e (by decide) rfl rfl ?_
            refine r_aload_n dX11_person_108 rfl ?_
            refine r_getS (v := 483) dX11_person_109 kF11_52 (sh_o sN2 kk468 (by decide)) (sh_f sN2 rr468_23 (by decide)) ?_
            refine r_iconst dX11_person_112 (by decide) ?_
            refine r_iload_n dX11_person_113 rfl ?_
            refine r_imul dX11_person_114 ?_
            refine r_iload_n dX11_person_115 rfl ?_
            refine r_iadd dX11_person_116 ?_
            have ob6 := (((h N1 hN25 sN2).1 c3).2.1 c4e).1
            refine r_iaload dX11_person_117 (jro_ix (sh_r sN2 kk483 (by decide)) ob6) ?_
            exact r_iret dX11_person_118 rfl (((h N1 hN25 sN2).1 c3).2.1 c4e).2
          · refine r_tab_eq (tgt := 108) dX11_person_37 c4e (by decide) rfl rfl ?_
            refine r_aload_n dX11_person_108 rfl ?_
            refine r_getS (v := 483) dX11_person_109 kF11_52 (sh_o sN2 kk468 (by decide)) (sh_f sN2 rr468_23 (by decide)) ?_
            refine r_iconst dX11_person_112 (by decide) ?_
            refine r_iload_n dX11_person_113 rfl ?_
            refine r_imul dX11_person_114 ?_
            refine r_iload_n dX11_person_115 rfl ?_
            refine r_iadd dX11_person_116 ?_
            have ob7 := (((h N1 hN25 sN2).1 c3).2.2.1 c4e).1
            refine r_iaload dX11_person_117 (jro_ix (sh_r sN2 kk483 (by decide)) ob7) ?_
            exact r_iret dX11_person_118 rfl (((h N1 hN25 sN2).1 c3).2.2.1 c4e).2
          · refine r_tab_eq (tgt := 87) dX11_person_37 c4e (by decide) rfl rfl ?_
            refine r_aload_n dX11_person_87 rfl ?_
            refine r_iload_n dX11_person_88 rfl ?_
            refine r_invV_l dX11_person_89 kM11_340 (by decide) (Nat.le_of_ble_eq_true rfl) rfl rfl (Nat.le_of_ble_eq_true rfl) (Nat.le_of_ble_eq_true rfl) (sh_o sN2 kk468 (by decide)) (Call.mono (((h N1 hN25 sN2).1 c3).2.2.2.1 c4e) (Nat.le_refl _) ?_)
            rintro _ M9 ⟨z8, rfl, s12, h10⟩
            refine ⟨_, rfl, ?_⟩
            refine r_invS_i dX11_person_92 (by decide) kXn11_366 kM11_366 (by decide) (Nat.le_of_ble_eq_true rfl) rfl rfl (Nat.le_of_ble_eq_true rfl) (Nat.le_of_ble_eq_true rfl) (m_asTold (by omega) s12 ⟨_, rfl, ?_⟩)
            exact r_iret dX11_person_95 rfl h10
          · refine r_tab_eq (tgt := 96) dX11_person_37 c4e (by decide) rfl rfl ?_
            refine r_aload_n dX11_person_96 rfl ?_
            refine r_iload_n dX11_person_97 rfl ?_
            refine r_invV_i dX11_person_98 kM11_369 (by decide) (Nat.le_of_ble_eq_true rfl) rfl rfl (Nat.le_of_ble_eq_true rfl) (Nat.le_of_ble_eq_true rfl) (sh_o sN2 kk468 (by decide)) (Call.mono (((h N1 hN25 sN2).1 c3).2.2.2.2.1 c4e) (Nat.le_refl _) ?_)
            rintro _ M14 ⟨z13, rfl, s17, h15⟩
            refine ⟨_, rfl, ?_⟩
            exact r_iret dX11_person_101 rfl h15
          · refine r_tab_eq (tgt := 102) dX11_person_37 c4e (by decide) rfl rfl ?_
            refine r_aload_n dX11_person_102 rfl ?_
            refine r_iload_n dX11_person_103 rfl ?_
            refine r_invV_i dX11_person_104 kM11_372 (by decide) (Nat.le_of_ble_eq_true rfl) rfl rfl (Nat.le_of_ble_eq_true rfl) (Nat.le_of_ble_eq_true rfl) (sh_o sN2 kk468 (by decide)) (Call.mono (((h N1 hN25 sN2).1 c3).2.2.2.2.2.1 c4e) (Nat.le_refl _) ?_)
            rintro _ M19 ⟨z18, rfl, s22, h20⟩
            refine ⟨_, rfl, ?_⟩
            exact r_iret dX11_person_107 rfl h20
      · refine r_iconst dX11_person_34 (by decide) ?_
        exact r_iret dX11_person_35 rfl ((h N1 hN25 sN2).2 c3)
    exact K26 _ rfl
  refine r_if_eq dX11_person_6 rfl (fun q27 => ?_) (fun q27 => ?_)
  · rw [if_pos q27] at K24
    refine r_iconst dX11_person_22 (by decide) ?_
    exact K24
  · rw [if_neg q27] at K24
    refine r_iload_n dX11_person_9 rfl ?_
    refine r_iconst dX11_person_10 (by decide) ?_
    refine r_iconst dX11_person_11 (by decide) ?_
    refine r_invS_i dX11_person_12 (by decide) kXn11_224 kM11_224 (by decide) (Nat.le_of_ble_eq_true rfl) rfl rfl (Nat.le_of_ble_eq_true rfl) (Nat.le_of_ble_eq_true rfl) (m_in (by omega) hS ⟨_, rfl, ?_⟩)
    refine r_if_eq dX11_person_15 rfl (fun q29 => ?_) (fun q29 => ?_)
    · rw [if_pos q29] at K24
      refine r_iconst dX11_person_22 (by decide) ?_
      exact K24
    · rw [if_neg q29] at K24
      refine r_iconst dX11_person_18 (by decide) ?_
      refine r_goto (tgt := 23) dX11_person_19 rfl ?_
      exact K24
theorem vn_thought {e : Nat} {M : jM} {Q : Option jV → jM → Prop} {p : Int} {i : Int} {w : Int} (he : 6 ≤ e) (hS : Shp M)
  (h : (((fIn p 0 (w32 (iv M 468 25 - 1))) = (0 : Int)) → (Q (some (vI (-1 : Int))) M)) ∧ (¬ ((fIn p 0 (w32 (iv M 468 25 - 1))) = (0 : Int)) → ((((fIn i (0 : Int) (3 : Int)) = (0 : Int)) → (Q (some (vI (-1 : Int))) M)) ∧ (¬ ((fIn i (0 : Int) (3 : Int)) = (0 : Int)) → ((((fIn w (0 : Int) (4 : Int)) = (0 : Int)) → (Q (some (vI (-1 : Int))) M)) ∧ (¬ ((fIn w (0 : Int) (4 : Int)) = (0 : Int)) → (((0 ≤ p ∧ p < 8) ∧ (0 ≤ i ∧ i < 4)) ∧ ((((iv M 486 (20 * p + 5 * i + (0 : Int)).toNat) ≠ (0 : Int)) → (((w ≠ (4 : Int)) → (((0 ≤ p ∧ p < 8) ∧ (0 ≤ i ∧ i < 4) ∧ (0 ≤ (w32 (w + (1 : Int))) ∧ (w32 (w + (1 : Int))) < 5)) ∧ (Q (some (vI (iv M 486 (20 * p + 5 * i + (w32 (w + (1 : Int)))).toNat))) M))) ∧ (¬ (w ≠ (4 : Int)) → (Call e mX11_massOf [vR 468, vI p, vI i] M (fun r11 M9 => ∃ z8 : Int, r11 = some (vL z8) ∧ Shp M9 ∧ (Q (some (vI (w32 z8))) M9)))))) ∧ (¬ ((iv M 486 (20 * p + 5 * i + (0 : Int)).toNat) ≠ (0 : Int)) → (Q (some (vI (-1 : Int))) M)))))))))) :
  Call (e + 1) mX11_thought [vR 468, vI p, vI i, vI w] M Q := by
  show Run (e + 1) mX11_thought 0 [some (vR 468), some (vI p), some (vI i), some (vI w)] [] M Q
  refine r_aload_n dX11_thought_0 rfl ?_
  refine r_iload_n dX11_thought_1 rfl ?_
  refine r_invV_i dX11_thought_2 kM11_309 (by decide) (Nat.le_of_ble_eq_true rfl) rfl rfl (Nat.le_of_ble_eq_true rfl) (Nat.le_of_ble_eq_true rfl) (sh_o hS kk468 (by decide)) (m_isPerson (by omega) hS ⟨_, rfl, ?_⟩)
  refine r_if_eq dX11_thought_5 rfl (fun c1 => ?_) (fun c1 => ?_)
  · refine r_iconst dX11_thought_36 (by decide) ?_
    exact r_iret dX11_thought_37 rfl (h.1 c1)
  · refine r_iload_n dX11_thought_8 rfl ?_
    refine r_iconst dX11_thought_9 (by decide) ?_
    refine r_iconst dX11_thought_10 (by decide) ?_
    refine r_invS_i dX11_thought_11 (by decide) kXn11_224 kM11_224 (by decide) (Nat.le_of_ble_eq_true rfl) rfl rfl (Nat.le_of_ble_eq_true rfl) (Nat.le_of_ble_eq_true rfl) (m_in (by omega) hS ⟨_, rfl, ?_⟩)
    refine r_if_eq dX11_thought_14 rfl (fun c2 => ?_) (fun c2 => ?_)
    · refine r_iconst dX11_thought_36 (by decide) ?_
      exact r_iret dX11_thought_37 rfl ((h.2 c1).1 c2)
    · refine r_iload_n dX11_thought_17 rfl ?_
      refine r_iconst dX11_thought_18 (by decide) ?_
      refine r_iconst dX11_thought_19 (by decide) ?_
      refine r_invS_i dX11_thought_20 (by decide) kXn11_224 kM11_224 (by decide) (Nat.le_of_ble_eq_true rfl) rfl rfl (Nat.le_of_ble_eq_true rfl) (Nat.le_of_ble_eq_true rfl) (m_in (by omega) hS ⟨_, rfl, ?_⟩)
      refine r_if_eq dX11_thought_23 rfl (fun c3 => ?_) (fun c3 => ?_)
      · refine r_iconst dX11_thought_36 (by decide) ?_
        exact r_iret dX11_thought_37 rfl (((h.2 c1).2 c2).1 c3)
      · refine r_aload_n dX11_thought_26 rfl ?_
        refine r_iload_n dX11_thought_27 rfl ?_
        refine r_iload_n dX11_thought_28 rfl ?_
        refine r_iconst dX11_thought_29 (by decide) ?_
        have ob4 := (((h.2 c1).2 c2).2 c3).1
        refine r_invV_i dX11_thought_30 kM11_271 (by decide) (Nat.le_of_ble_eq_true rfl) rfl rfl (Nat.le_of_ble_eq_true rfl) (Nat.le_of_ble_eq_true rfl) (sh_o hS kk468 (by decide)) (m_of (by omega) hS ⟨ob4.1, ob4.2, by decide⟩ ⟨_, rfl, ?_⟩)
        refine r_if_ne dX11_thought_33 rfl (fun c5 => ?_) (fun c5 => ?_)
        · refine r_iload_n dX11_thought_38 rfl ?_
          refine r_iconst dX11_thought_39 (by decide) ?_
          refine r_icmp_ne dX11_thought_40 rfl (fun c6 => ?_) (fun c6 => ?_)
          · refine r_aload_n dX11_thought_53 rfl ?_
            refine r_iload_n dX11_thought_54 rfl ?_
            refine r_iload_n dX11_thought_55 rfl ?_
            refine r_iload_n dX11_thought_56 rfl ?_
            refine r_iconst dX11_thought_57 (by decide) ?_
            refine r_iadd dX11_thought_58 ?_
            have ob7 := (((((h.2 c1).2 c2).2 c3).2.1 c5).1 c6).1
            refine r_invV_i dX11_thought_59 kM11_271 (by decide) (Nat.le_of_ble_eq_true rfl) rfl rfl (Nat.le_of_ble_eq_true rfl) (Nat.le_of_ble_eq_true rfl) (sh_o hS kk468 (by decide)) (m_of (by omega) hS ob7 ⟨_, rfl, ?_⟩)
            exact r_iret dX11_thought_62 rfl (((((h.2 c1).2 c2).2 c3).2.1 c5).1 c6).2
          · refine r_aload_n dX11_thought_43 rfl ?_
            refine r_iload_n dX11_thought_44 rfl ?_
            refine r_iload_n dX11_thought_45 rfl ?_
            refine r_invV_l dX11_thought_46 kM11_334 (by decide) (Nat.le_of_ble_eq_true rfl) rfl rfl (Nat.le_of_ble_eq_true rfl) (Nat.le_of_ble_eq_true rfl) (sh_o hS kk468 (by decide)) (Call.mono (((((h.2 c1).2 c2).2 c3).2.1 c5).2 c6) (Nat.le_refl _) ?_)
            rintro _ M9 ⟨z8, rfl, s12, h10⟩
            refine ⟨_, rfl, ?_⟩
            refine r_l2i dX11_thought_49 ?_
            refine r_goto (tgt := 62) dX11_thought_50 rfl ?_
            exact r_iret dX11_thought_62 rfl h10
        · refine r_iconst dX11_thought_36 (by decide) ?_
          exact r_iret dX11_thought_37 rfl ((((h.2 c1).2 c2).2 c3).2.2 c5)
theorem vn_goes {e : Nat} {M : jM} {Q : Option jV → jM → Prop} {p : Int} {k : Int} (he : 6 ≤ e) (hS : Shp M)
  (h : (((fIn p 0 (w32 (iv M 468 25 - 1))) = (0 : Int)) → (Q (some (vI (-1 : Int))) M)) ∧ (¬ ((fIn p 0 (w32 (iv M 468 25 - 1))) = (0 : Int)) → ((((fIn k (0 : Int) (2 : Int)) ≠ (0 : Int)) → ((0 ≤ p ∧ p < 8) ∧ (Q (some (vI (if (fGm (iv M 483 (3 * p + 2).toNat) k) = (0 : Int) then (0 : Int) else (1 : Int)))) M))) ∧ (¬ ((fIn k (0 : Int) (2 : Int)) ≠ (0 : Int)) → (Q (some (vI (-1 : Int))) M))))) :
  Call (e + 1) mX11_goes [vR 468, vI p, vI k] M Q := by
  show Run (e + 1) mX11_goes 0 [some (vR 468), some (vI p), some (vI k)] [] M Q
  refine r_aload_n dX11_goes_0 rfl ?_
  refine r_iload_n dX11_goes_1 rfl ?_
  refine r_invV_i dX11_goes_2 kM11_309 (by decide) (Nat.le_of_ble_eq_true rfl) rfl rfl (Nat.le_of_ble_eq_true rfl) (Nat.le_of_ble_eq_true rfl) (sh_o hS kk468 (by decide)) (m_isPerson (by omega) hS ⟨_, rfl, ?_⟩)
  refine r_if_eq dX11_goes_5 rfl (fun c1 => ?_) (fun c1 => ?_)
  · refine r_iconst dX11_goes_17 (by decide) ?_
    refine r_goto (tgt := 35) dX11_goes_18 rfl ?_
    exact r_iret dX11_goes_35 rfl (h.1 c1)
  · refine r_iload_n dX11_goes_8 rfl ?_
    refine r_iconst dX11_goes_9 (by decide) ?_
    refine r_iconst dX11_goes_10 (by decide) ?_
    refine r_invS_i dX11_goes_11 (by decide) kXn11_224 kM11_224 (by decide) (Nat.le_of_ble_eq_true rfl) rfl rfl (Nat.le_of_ble_eq_true rfl) (Nat.le_of_ble_eq_true rfl) (m_in (by omega) hS ⟨_, rfl, ?_⟩)
    refine r_if_ne dX11_goes_14 rfl (fun c2 => ?_) (fun c2 => ?_)
    · refine r_aload_n dX11_goes_21 rfl ?_
      refine r_iload_n dX11_goes_22 rfl ?_
      refine r_iload_n dX11_goes_23 rfl ?_
      have ob3 := ((h.2 c1).1 c2).1
      refine r_invV_i dX11_goes_24 kM11_375 (by decide) (Nat.le_of_ble_eq_true rfl) rfl rfl (Nat.le_of_ble_eq_true rfl) (Nat.le_of_ble_eq_true rfl) (sh_o hS kk468 (by decide)) (m_goesTo (by omega) hS ob3 ⟨_, rfl, ?_⟩)
      have K4 : Run (e + 1) mX11_goes 35 [some (vR 468), some (vI p), some (vI k)] [vI (if (fGm (iv M 483 (3 * p + 2).toNat) k) = (0 : Int) then (0 : Int) else (1 : Int))] M Q := by
        exact r_iret dX11_goes_35 rfl ((h.2 c1).1 c2).2
      refine r_if_eq dX11_goes_27 rfl (fun q5 => ?_) (fun q5 => ?_)
      · rw [if_pos q5] at K4
        refine r_iconst dX11_goes_34 (by decide) ?_
        exact K4
      · rw [if_neg q5] at K4
        refine r_iconst dX11_goes_30 (by decide) ?_
        refine r_goto (tgt := 35) dX11_goes_31 rfl ?_
        exact K4
    · refine r_iconst dX11_goes_17 (by decide) ?_
      refine r_goto (tgt := 35) dX11_goes_18 rfl ?_
      exact r_iret dX11_goes_35 rfl ((h.2 c1).2 c2)
theorem vn_law {e : Nat} {M : jM} {Q : Option jV → jM → Prop} {n : Int} (he : 6 ≤ e) (hS : Shp M)
  (h : (((fIn n (-1 : Int) (w32 ((iv M 468 13) - (1 : Int)))) ≠ (0 : Int)) → (∀ N2 : jM, N2 = (si M 468 30 n) → Shp N2 → (Q (some (vI (1 : Int))) N2))) ∧ (¬ ((fIn n (-1 : Int) (w32 ((iv M 468 13) - (1 : Int)))) ≠ (0 : Int)) → (Q (some (vI (0 : Int))) M))) :
  Call (e + 1) mX11_law [vR 468, vI n] M Q := by
  show Run (e + 1) mX11_law 0 [some (vR 468), some (vI n)] [] M Q
  refine r_iload_n dX11_law_0 rfl ?_
  refine r_iconst dX11_law_1 (by decide) ?_
  refine r_aload_n dX11_law_2 rfl ?_
  refine r_get0 dX11_law_3 kF11_306 (sh_o hS kk468 (by decide)) ?_
  refine r_iconst dX11_law_6 (by decide) ?_
  refine r_isub dX11_law_7 ?_
  refine r_invS_i dX11_law_8 (by decide) kXn11_224 kM11_224 (by decide) (Nat.le_of_ble_eq_true rfl) rfl rfl (Nat.le_of_ble_eq_true rfl) (Nat.le_of_ble_eq_true rfl) (m_in (by omega) hS ⟨_, rfl, ?_⟩)
  refine r_if_ne dX11_law_11 rfl (fun c1 => ?_) (fun c1 => ?_)
  · refine r_aload_n dX11_law_16 rfl ?_
    refine r_iload_n dX11_law_17 rfl ?_
    refine r_put0 dX11_law_18 kF11_67 (sh_o hS kk468 (by decide)) (Or.inl rfl) ?_
    have K5 : ∀ N2 : jM, N2 = (si M 468 30 n) → Run (e + 1) mX11_law 21 [some (vR 468), some (vI n)] [] N2 Q := by
      intro N2 hN4
      have sN3 : Shp N2 := by rw [hN4]; exact hS
      refine r_iconst dX11_law_21 (by decide) ?_
      exact r_zret dX11_law_22 rfl (by decide) ((h.1 c1) N2 hN4 sN3)
    exact K5 _ rfl
  · refine r_iconst dX11_law_14 (by decide) ?_
    exact r_zret dX11_law_15 rfl (by decide) (h.2 c1)
theorem vn_memory {e : Nat} {M : jM} {Q : Option jV → jM → Prop} {v : Int} (he : 6 ≤ e) (hS : Shp M)
  (h : (((fIn v (0 : Int) (9 : Int)) = (0 : Int)) → (Q (some (vI (0 : Int))) M)) ∧ (¬ ((fIn v (0 : Int) (9 : Int)) = (0 : Int)) → (((v ≠ (iv M 468 31)) → (∀ N3 : jM, N3 = (si M 468 31 v) → Shp N3 → (Q (some (vI (1 : Int))) N3))) ∧ (¬ (v ≠ (iv M 468 31)) → (Q (some (vI (0 : Int))) M))))) :
  Call (e + 1) mX11_memory [vR 468, vI v] M Q := by
  show Run (e + 1) mX11_memory 0 [some (vR 468), some (vI v)] [] M Q
  refine r_iload_n dX11_memory_0 rfl ?_
  refine r_iconst dX11_memory_1 (by decide) ?_
  refine r_bipush dX11_memory_2 (by decide) ?_
  refine r_invS_i dX11_memory_4 (by decide) kXn11_224 kM11_224 (by decide) (Nat.le_of_ble_eq_true rfl) rfl rfl (Nat.le_of_ble_eq_true rfl) (Nat.le_of_ble_eq_true rfl) (m_in (by omega) hS ⟨_, rfl, ?_⟩)
  refine r_if_eq dX11_memory_7 rfl (fun c1 => ?_) (fun c1 => ?_)
  · refine r_iconst dX11_memory_18 (by decide) ?_
    exact r_zret dX11_memory_19 rfl (by decide) (h.1 c1)
  · refine r_iload_n dX11_memory_10 rfl ?_
    refine r_aload_n dX11_memory_11 rfl ?_
    refine r_get0 dX11_memory_12 kF11_71 (sh_o hS kk468 (by decide)) ?_
    refine r_icmp_ne dX11_memory_15 rfl (fun c2 => ?_) (fun c2 => ?_)
    · refine r_aload_n dX11_memory_20 rfl ?_
      refine r_iload_n dX11_memory_21 rfl ?_
      refine r_put0 dX11_memory_22 kF11_71 (sh_o hS kk468 (by decide)) (Or.inl rfl) ?_
      have K6 : ∀ N3 : jM, N3 = (si M 468 31 v) → Run (e + 1) mX11_memory 25 [some (vR 468), some (vI v)] [] N3 Q := by
        intro N3 hN5
        have sN4 : Shp N3 := by rw [hN5]; exact hS
        refine r_iconst dX11_memory_25 (by decide) ?_
        exact r_zret dX11_memory_26 rfl (by decide) (((h.2 c1).1 c2) N3 hN5 sN4)
      exact K6 _ rfl
    · refine r_iconst dX11_memory_18 (by decide) ?_
      exact r_zret dX11_memory_19 rfl (by decide) ((h.2 c1).2 c2)
theorem vn_hours {e : Nat} {M : jM} {Q : Option jV → jM → Prop} {n : Int} (he : 6 ≤ e) (hS : Shp M)
  (h : (((iv M 468 25) ≠ (0 : Int)) → ((((fIn n (1 : Int) (60 : Int)) ≠ (0 : Int)) → (Call e mX11_areHours [vR 468, vI n] M (fun r6 M4 => ∃ z3 : Int, r6 = some (vI z3) ∧ Shp M4 ∧ (Run (e + 1) mX11_hours 39 [some (vR 468), some (vI n), none] [vI (if z3 ≠ (0 : Int) then (-1 : Int) else (4 : Int)), vR 468] M4 Q)))) ∧ (¬ ((fIn n (1 : Int) (60 : Int)) ≠ (0 : Int)) → (Run (e + 1) mX11_hours 39 [some (vR 468), some (vI n), none] [vI (1 : Int), vR 468] M Q)))) ∧ (¬ ((iv M 468 25) ≠ (0 : Int)) → (Run (e + 1) mX11_hours 39 [some (vR 468), some (vI n), none] [vI (0 : Int), vR 468] M Q))) :
  Call (e + 1) mX11_hours [vR 468, vI n] M Q := by
  show Run (e + 1) mX11_hours 0 [some (vR 468), some (vI n), none] [] M Q
  refine r_aload_n dX11_hours_0 rfl ?_
  refine r_aload_n dX11_hours_1 rfl ?_
  refine r_get0 dX11_hours_2 kF11_287 (sh_o hS kk468 (by decide)) ?_
  refine r_if_ne dX11_hours_5 rfl (fun c1 => ?_) (fun c1 => ?_)
  · refine r_iload_n dX11_hours_12 rfl ?_
    refine r_iconst dX11_hours_13 (by decide) ?_
    refine r_bipush dX11_hours_14 (by decide) ?_
    refine r_invS_i dX11_hours_16 (by decide) kXn11_224 kM11_224 (by decide) (Nat.le_of_ble_eq_true rfl) rfl rfl (Nat.le_of_ble_eq_true rfl) (Nat.le_of_ble_eq_true rfl) (m_in (by omega) hS ⟨_, rfl, ?_⟩)
    refine r_if_ne dX11_hours_19 rfl (fun c2 => ?_) (fun c2 => ?_)
    · refine r_aload_n dX11_hours_26 rfl ?_
      refine r_iload_n dX11_hours_27 rfl ?_
      refine r_invV_i dX11_hours_28 kM11_378 (by decide) (Nat.le_of_ble_eq_true rfl) rfl rfl (Nat.le_of_ble_eq_true rfl) (Nat.le_of_ble_eq_true rfl) (sh_o hS kk468 (by decide)) (Call.mono ((h.1 c1).1 c2) (Nat.le_refl _) ?_)
      rintro _ M4 ⟨z3, rfl, s7, h5⟩
      refine ⟨_, rfl, ?_⟩
      have K8 : Run (e + 1) mX11_hours 39 [some (vR 468), some (vI n), none] [vI (if z3 ≠ (0 : Int) then (-1 : Int) else (4 : Int)), vR 468] M4 Q := by
        exact h5
      refine r_if_ne dX11_hours_31 rfl (fun q9 => ?_) (fun q9 => ?_)
      · rw [if_pos q9] at K8
        refine r_iconst dX11_hours_38 (by decide) ?_
        exact K8
      · rw [if_neg q9] at K8
        refine r_iconst dX11_hours_34 (by decide) ?_
        refine r_goto (tgt := 39) dX11_hours_35 rfl ?_
        exact K8
    · refine r_iconst dX11_hours_22 (by decide) ?_
      refine r_goto (tgt := 39) dX11_hours_23 rfl ?_
      exact ((h.1 c1).2 c2)
  · refine r_iconst dX11_hours_8 (by decide) ?_
    refine r_goto (tgt := 39) dX11_hours_9 rfl ?_
    exact (h.2 c1)
theorem vn_hours_39 {e : Nat} {M : jM} {Q : Option jV → jM → Prop} {n : Int} {l2 : Option jV} {k0 : Int}  (he : 6 ≤ e) (hS : Shp M)
  (h : Call e mX11_isRefused [vR 468, vI k0] M (fun r14 M12 => ∃ z11 : Int, r14 = some (vI z11) ∧ Shp M12 ∧ (((z11 = (0 : Int)) → (Run (e + 1) mX11_hours 49 [some (vR 468), some (vI n), some (vI (0 : Int))] [] M12 Q)) ∧ (¬ (z11 = (0 : Int)) → (Q (some (vI (-1 : Int))) M12))))) :
  Run (e + 1) mX11_hours 39 [some (vR 468), some (vI n), l2] [vI k0, vR 468] M Q := by
  refine r_invV_i dX11_hours_39 kM11_381 (by decide) (Nat.le_of_ble_eq_true rfl) rfl rfl (Nat.le_of_ble_eq_true rfl) (Nat.le_of_ble_eq_true rfl) (sh_o hS kk468 (by decide)) (Call.mono h (Nat.le_refl _) ?_)
  rintro _ M12 ⟨z11, rfl, s15, h13⟩
  refine ⟨_, rfl, ?_⟩
  refine r_if_eq dX11_hours_42 rfl (fun c16 => ?_) (fun c16 => ?_)
  · refine r_iconst dX11_hours_47 (by decide) ?_
    refine r_istore_n (ls2 := [some (vR 468), some (vI n), some (vI (0 : Int))]) dX11_hours_48 (Nat.le_of_ble_eq_true rfl) rfl ?_
    exact (h13.1 c16)
  · refine r_iconst dX11_hours_45 (by decide) ?_
    exact r_iret dX11_hours_46 rfl (h13.2 c16)
theorem vn_hours_49 {e : Nat} {M : jM} {Q : Option jV → jM → Prop} {n : Int} {l2 : Int}  (he : 6 ≤ e) (hS : Shp M)
  (h : ((n ≤ l2) → (Q (some (vI (iv M 486 170))) M)) ∧ (¬ (n ≤ l2) → (Call e mX11_keep [vR 468] M (fun r21 M19 => r21 = none ∧ Shp M19 ∧ (Call e mX11_passHour [vR 468] M19 (fun r26 M24 => r26 = none ∧ Shp M24 ∧ (Run (e + 1) mX11_hours 49 [some (vR 468), some (vI n), some (vI (w32 (l2 + (1 : Int))))] [] M24 Q))))))) :
  Run (e + 1) mX11_hours 49 [some (vR 468), some (vI n), some (vI l2)] [] M Q := by
  refine r_iload_n dX11_hours_49 rfl ?_
  refine r_iload_n dX11_hours_50 rfl ?_
  refine r_icmp_ge dX11_hours_51 rfl (fun c17 => ?_) (fun c17 => ?_)
  · refine r_aload_n dX11_hours_68 rfl ?_
    refine r_getS (v := 486) dX11_hours_69 kF11_61 (sh_o hS kk468 (by decide)) (sh_f hS rr468_28 (by decide)) ?_
    refine r_sipush dX11_hours_72 (by decide) ?_
    refine r_ialoadK (k := 170) dX11_hours_75 rfl (jro_ix (n := 352) (sh_r hS kk486 (by decide)) (by decide)) ?_
    exact r_iret dX11_hours_76 rfl (h.1 c17)
  · refine r_aload_n dX11_hours_54 rfl ?_
    refine r_invV_v dX11_hours_55 kM11_384 (by decide) (Nat.le_of_ble_eq_true rfl) rfl rfl (Nat.le_of_ble_eq_true rfl) (Nat.le_of_ble_eq_true rfl) (sh_o hS kk468 (by decide)) (Call.mono (h.2 c17) (Nat.le_refl _) ?_)
    rintro _ M19 ⟨rfl, s22, h20⟩
    refine ⟨rfl, ?_⟩
    refine r_aload_n dX11_hours_58 rfl ?_
    refine r_invV_v dX11_hours_59 kM11_387 (by decide) (Nat.le_of_ble_eq_true rfl) rfl rfl (Nat.le_of_ble_eq_true rfl) (Nat.le_of_ble_eq_true rfl) (sh_o s22 kk468 (by decide)) (Call.mono h20 (Nat.le_refl _) ?_)
    rintro _ M24 ⟨rfl, s27, h25⟩
    refine ⟨rfl, ?_⟩
    refine r_iinc (ls2 := [some (vR 468), some (vI n), some (vI (w32 (l2 + (1 : Int))))]) dX11_hours_62 rfl rfl ?_
    refine r_goto (tgt := 49) dX11_hours_65 rfl ?_
    exact h25
theorem vn_think {e : Nat} {M : jM} {Q : Option jV → jM → Prop} {p : Int} {o : Int} {k : Int} {t : Int} (he : 6 ≤ e) (hS : Shp M)
  (h : (((fIn p 0 (w32 (iv M 468 25 - 1))) = (0 : Int)) → (Run (e + 1) mX11_think 77 [some (vR 468), some (vI p), some (vI o), some (vI k), some (vI t), none] [vI (0 : Int), vR 468] M Q)) ∧ (¬ ((fIn p 0 (w32 (iv M 468 25 - 1))) = (0 : Int)) → ((((fIn o 0 (w32 (iv M 468 25 - 1))) ≠ (0 : Int)) → (((p = o) → (Run (e + 1) mX11_think 77 [some (vR 468), some (vI p), some (vI o), some (vI k), some (vI t), none] [vI (1 : Int), vR 468] M Q)) ∧ (¬ (p = o) → ((((fIn k (0 : Int) (2 : Int)) = (0 : Int)) → (Run (e + 1) mX11_think 77 [some (vR 468), some (vI p), some (vI o), some (vI k), some (vI t), none] [vI (1 : Int), vR 468] M Q)) ∧ (¬ ((fIn k (0 : Int) (2 : Int)) = (0 : Int)) → ((((fIn t (1 : Int) (9 : Int)) ≠ (0 : Int)) → ((0 ≤ p ∧ p < 8) ∧ ((((fGm (iv M 483 (3 * p + 2).toNat) k) ≠ (0 : Int)) → (Call e mX11_emptyIn [vR 468, vI p] M (fun r11 M9 => ∃ z8 : Int, r11 = some (vI z8) ∧ Shp M9 ∧ (Run (e + 1) mX11_think 77 [some (vR 468), some (vI p), some (vI o), some (vI k), some (vI t), none] [vI (if z8 ≠ (-1 : Int) then (-1 : Int) else (3 : Int)), vR 468] M9 Q)))) ∧ (¬ ((fGm (iv M 483 (3 * p + 2).toNat) k) ≠ (0 : Int)) → (Run (e + 1) mX11_think 77 [some (vR 468), some (vI p), some (vI o), some (vI k), some (vI t), none] [vI (2 : Int), vR 468] M Q))))) ∧ (¬ ((fIn t (1 : Int) (9 : Int)) ≠ (0 : Int)) → (Run (e + 1) mX11_think 77 [some (vR 468), some (vI p), some (vI o), some (vI k), some (vI t), none] [vI (1 : Int), vR 468] M Q)))))))) ∧ (¬ ((fIn o 0 (w32 (iv M 468 25 - 1))) ≠ (0 : Int)) → (Run (e + 1) mX11_think 77 [some (vR 468), some (vI p), some (vI o), some (vI k), some (vI t), none] [vI (0 : Int), vR 468] M Q))))) :
  Call (e + 1) mX11_think [vR 468, vI p, vI o, vI k, vI t] M Q := by
  show Run (e + 1) mX11_think 0 [some (vR 468), some (vI p), some (vI o), some (vI k), some (vI t), none] [] M Q
  refine r_aload_n dX11_think_0 rfl ?_
  refine r_aload_n dX11_think_1 rfl ?_
  refine r_iload_n dX11_think_2 rfl ?_
  refine r_invV_i dX11_think_3 kM11_309 (by decide) (Nat.le_of_ble_eq_true rfl) rfl rfl (Nat.le_of_ble_eq_true rfl) (Nat.le_of_ble_eq_true rfl) (sh_o hS kk468 (by decide)) (m_isPerson (by omega) hS ⟨_, rfl, ?_⟩)
  refine r_if_eq dX11_think_6 rfl (fun c1 => ?_) (fun c1 => ?_)
  · refine r_iconst dX11_think_17 (by decide) ?_
    refine r_goto (tgt := 77) dX11_think_18 rfl ?_
    exact (h.1 c1)
  · refine r_aload_n dX11_think_9 rfl ?_
    refine r_iload_n dX11_think_10 rfl ?_
    refine r_invV_i dX11_think_11 kM11_309 (by decide) (Nat.le_of_ble_eq_true rfl) rfl rfl (Nat.le_of_ble_eq_true rfl) (Nat.le_of_ble_eq_true rfl) (sh_o hS kk468 (by decide)) (m_isPerson (by omega) hS ⟨_, rfl, ?_⟩)
    refine r_if_ne dX11_think_14 rfl (fun c2 => ?_) (fun c2 => ?_)
    · refine r_iload_n dX11_think_21 rfl ?_
      refine r_iload_n dX11_think_22 rfl ?_
      refine r_icmp_eq dX11_think_23 rfl (fun c3 => ?_) (fun c3 => ?_)
      · refine r_iconst dX11_think_46 (by decide) ?_
        refine r_goto (tgt := 77) dX11_think_47 rfl ?_
        exact (((h.2 c1).1 c2).1 c3)
      · refine r_iload_n dX11_think_26 rfl ?_
        refine r_iconst dX11_think_27 (by decide) ?_
        refine r_iconst dX11_think_28 (by decide) ?_
        refine r_invS_i dX11_think_29 (by decide) kXn11_224 kM11_224 (by decide) (Nat.le_of_ble_eq_true rfl) rfl rfl (Nat.le_of_ble_eq_true rfl) (Nat.le_of_ble_eq_true rfl) (m_in (by omega) hS ⟨_, rfl, ?_⟩)
        refine r_if_eq dX11_think_32 rfl (fun c4 => ?_) (fun c4 => ?_)
        · refine r_iconst dX11_think_46 (by decide) ?_
          refine r_goto (tgt := 77) dX11_think_47 rfl ?_
          exact ((((h.2 c1).1 c2).2 c3).1 c4)
        · refine r_iload dX11_think_35 rfl ?_
          refine r_iconst dX11_think_37 (by decide) ?_
          refine r_bipush dX11_think_38 (by decide) ?_
          refine r_invS_i dX11_think_40 (by decide) kXn11_224 kM11_224 (by decide) (Nat.le_of_ble_eq_true rfl) rfl rfl (Nat.le_of_ble_eq_true rfl) (Nat.le_of_ble_eq_true rfl) (m_in (by omega) hS ⟨_, rfl, ?_⟩)
          refine r_if_ne dX11_think_43 rfl (fun c5 => ?_) (fun c5 => ?_)
          · refine r_aload_n dX11_think_50 rfl ?_
            refine r_iload_n dX11_think_51 rfl ?_
            refine r_iload_n dX11_think_52 rfl ?_
            have ob6 := (((((h.2 c1).1 c2).2 c3).2 c4).1 c5).1
            refine r_invV_i dX11_think_53 kM11_375 (by decide) (Nat.le_of_ble_eq_true rfl) rfl rfl (Nat.le_of_ble_eq_true rfl) (Nat.le_of_ble_eq_true rfl) (sh_o hS kk468 (by decide)) (m_goesTo (by omega) hS ob6 ⟨_, rfl, ?_⟩)
            refine r_if_ne dX11_think_56 rfl (fun c7 => ?_) (fun c7 => ?_)
            · refine r_aload_n dX11_think_63 rfl ?_
              refine r_iload_n dX11_think_64 rfl ?_
              refine r_invV_i dX11_think_65 kM11_274 (by decide) (Nat.le_of_ble_eq_true rfl) rfl rfl (Nat.le_of_ble_eq_true rfl) (Nat.le_of_ble_eq_true rfl) (sh_o hS kk468 (by decide)) (Call.mono ((((((h.2 c1).1 c2).2 c3).2 c4).1 c5).2.1 c7) (Nat.le_refl _) ?_)
              rintro _ M9 ⟨z8, rfl, s12, h10⟩
              refine ⟨_, rfl, ?_⟩
              refine r_iconst dX11_think_68 (by decide) ?_
              have K13 : Run (e + 1) mX11_think 77 [some (vR 468), some (vI p), some (vI o), some (vI k), some (vI t), none] [vI (if z8 ≠ (-1 : Int) then (-1 : Int) else (3 : Int)), vR 468] M9 Q := by
                exact h10
              refine r_icmp_ne dX11_think_69 rfl (fun q14 => ?_) (fun q14 => ?_)
              · rw [if_pos q14] at K13
                refine r_iconst dX11_think_76 (by decide) ?_
                exact K13
              · rw [if_neg q14] at K13
                refine r_iconst dX11_think_72 (by decide) ?_
                refine r_goto (tgt := 77) dX11_think_73 rfl ?_
                exact K13
            · refine r_iconst dX11_think_59 (by decide) ?_
              refine r_goto (tgt := 77) dX11_think_60 rfl ?_
              exact ((((((h.2 c1).1 c2).2 c3).2 c4).1 c5).2.2 c7)
          · refine r_iconst dX11_think_46 (by decide) ?_
            refine r_goto (tgt := 77) dX11_think_47 rfl ?_
            exact (((((h.2 c1).1 c2).2 c3).2 c4).2 c5)
    · refine r_iconst dX11_think_17 (by decide) ?_
      refine r_goto (tgt := 77) dX11_think_18 rfl ?_
      exact ((h.2 c1).2 c2)
theorem vn_think_77 {e : Nat} {M : jM} {Q : Option jV → jM → Prop} {p : Int} {o : Int} {k : Int} {t : Int} {l5 : Option jV} {k0 : Int}  (he : 6 ≤ e) (hS : Shp M)
  (h : Call e mX11_isRefused [vR 468, vI k0] M (fun r19 M17 => ∃ z16 : Int, r19 = some (vI z16) ∧ Shp M17 ∧ (((z16 = (0 : Int)) → (Call e mX11_keep [vR 468] M17 (fun r25 M23 => r25 = none ∧ Shp M23 ∧ (Call e mX11_emptyIn [vR 468, vI p] M23 (fun r30 M28 => ∃ z27 : Int, r30 = some (vI z27) ∧ Shp M28 ∧ (Call e mX11_putThought [vR 468, vI p, vI o, vI k, vI t] M28 (fun r35 M33 => r35 = none ∧ Shp M33 ∧ (Q (some (vI z27)) M33)))))))) ∧ (¬ (z16 = (0 : Int)) → (Q (some (vI (-1 : Int))) M17))))) :
  Run (e + 1) mX11_think 77 [some (vR 468), some (vI p), some (vI o), some (vI k), some (vI t), l5] [vI k0, vR 468] M Q := by
  refine r_invV_i dX11_think_77 kM11_381 (by decide) (Nat.le_of_ble_eq_true rfl) rfl rfl (Nat.le_of_ble_eq_true rfl) (Nat.le_of_ble_eq_true rfl) (sh_o hS kk468 (by decide)) (Call.mono h (Nat.le_refl _) ?_)
  rintro _ M17 ⟨z16, rfl, s20, h18⟩
  refine ⟨_, rfl, ?_⟩
  refine r_if_eq dX11_think_80 rfl (fun c21 => ?_) (fun c21 => ?_)
  · refine r_aload_n dX11_think_85 rfl ?_
    refine r_invV_v dX11_think_86 kM11_384 (by decide) (Nat.le_of_ble_eq_true rfl) rfl rfl (Nat.le_of_ble_eq_true rfl) (Nat.le_of_ble_eq_true rfl) (sh_o s20 kk468 (by decide)) (Call.mono (h18.1 c21) (Nat.le_refl _) ?_)
    rintro _ M23 ⟨rfl, s26, h24⟩
    refine ⟨rfl, ?_⟩
    refine r_aload_n dX11_think_89 rfl ?_
    refine r_iload_n dX11_think_90 rfl ?_
    refine r_invV_i dX11_think_91 kM11_274 (by decide) (Nat.le_of_ble_eq_true rfl) rfl rfl (Nat.le_of_ble_eq_true rfl) (Nat.le_of_ble_eq_true rfl) (sh_o s26 kk468 (by decide)) (Call.mono h24 (Nat.le_refl _) ?_)
    rintro _ M28 ⟨z27, rfl, s31, h29⟩
    refine ⟨_, rfl, ?_⟩
    refine r_istore (ls2 := [some (vR 468), some (vI p), some (vI o), some (vI k), some (vI t), some (vI z27)]) dX11_think_94 (Nat.le_of_ble_eq_true rfl) rfl ?_
    refine r_aload_n dX11_think_96 rfl ?_
    refine r_iload_n dX11_think_97 rfl ?_
    refine r_iload_n dX11_think_98 rfl ?_
    refine r_iload_n dX11_think_99 rfl ?_
    refine r_iload dX11_think_100 rfl ?_
    refine r_invV_v dX11_think_102 kM11_284 (by decide) (Nat.le_of_ble_eq_true rfl) rfl rfl (Nat.le_of_ble_eq_true rfl) (Nat.le_of_ble_eq_true rfl) (sh_o s31 kk468 (by decide)) (Call.mono h29 (Nat.le_refl _) ?_)
    rintro _ M33 ⟨rfl, s36, h34⟩
    refine ⟨rfl, ?_⟩
    refine r_iload dX11_think_105 rfl ?_
    exact r_iret dX11_think_107 rfl h34
  · refine r_iconst dX11_think_83 (by decide) ?_
    exact r_iret dX11_think_84 rfl (h18.2 c21)
theorem vn_forget {e : Nat} {M : jM} {Q : Option jV → jM → Prop} {p : Int} {i : Int} (he : 6 ≤ e) (hS : Shp M)
  (h : (((fIn p 0 (w32 (iv M 468 25 - 1))) ≠ (0 : Int)) → ((((fIn i (0 : Int) (3 : Int)) ≠ (0 : Int)) → (((0 ≤ p ∧ p < 8) ∧ (0 ≤ i ∧ i < 4)) ∧ (∀ v4 : Int, v4 = ((if (iv M 486 (20 * p + 5 * i + (0 : Int)).toNat) ≠ (0 : Int) then (-1 : Int) else (2 : Int))) → (Run (e + 1) mX11_forget 41 [some (vR 468), some (vI p), some (vI i)] [vI v4, vR 468] M Q)))) ∧ (¬ ((fIn i (0 : Int) (3 : Int)) ≠ (0 : Int)) → (Run (e + 1) mX11_forget 41 [some (vR 468), some (vI p), some (vI i)] [vI (1 : Int), vR 468] M Q)))) ∧ (¬ ((fIn p 0 (w32 (iv M 468 25 - 1))) ≠ (0 : Int)) → (Run (e + 1) mX11_forget 41 [some (vR 468), some (vI p), some (vI i)] [vI (0 : Int), vR 468] M Q))) :
  Call (e + 1) mX11_forget [vR 468, vI p, vI i] M Q := by
  show Run (e + 1) mX11_forget 0 [some (vR 468), some (vI p), some (vI i)] [] M Q
  refine r_aload_n dX11_forget_0 rfl ?_
  refine r_aload_n dX11_forget_1 rfl ?_
  refine r_iload_n dX11_forget_2 rfl ?_
  refine r_invV_i dX11_forget_3 kM11_309 (by decide) (Nat.le_of_ble_eq_true rfl) rfl rfl (Nat.le_of_ble_eq_true rfl) (Nat.le_of_ble_eq_true rfl) (sh_o hS kk468 (by decide)) (m_isPerson (by omega) hS ⟨_, rfl, ?_⟩)
  refine r_if_ne dX11_forget_6 rfl (fun c1 => ?_) (fun c1 => ?_)
  · refine r_iload_n dX11_forget_13 rfl ?_
    refine r_iconst dX11_forget_14 (by decide) ?_
    refine r_iconst dX11_forget_15 (by decide) ?_
    refine r_invS_i dX11_forget_16 (by decide) kXn11_224 kM11_224 (by decide) (Nat.le_of_ble_eq_true rfl) rfl rfl (Nat.le_of_ble_eq_true rfl) (Nat.le_of_ble_eq_true rfl) (m_in (by omega) hS ⟨_, rfl, ?_⟩)
    refine r_if_ne dX11_forget_19 rfl (fun c2 => ?_) (fun c2 => ?_)
    · refine r_aload_n dX11_forget_26 rfl ?_
      refine r_iload_n dX11_forget_27 rfl ?_
      refine r_iload_n dX11_forget_28 rfl ?_
      refine r_iconst dX11_forget_29 (by decide) ?_
      have ob3 := ((h.1 c1).1 c2).1
      refine r_invV_i dX11_forget_30 kM11_271 (by decide) (Nat.le_of_ble_eq_true rfl) rfl rfl (Nat.le_of_ble_eq_true rfl) (Nat.le_of_ble_eq_true rfl) (sh_o hS kk468 (by decide)) (m_of (by omega) hS ⟨ob3.1, ob3.2, by decide⟩ ⟨_, rfl, ?_⟩)
      have K5 : Run (e + 1) mX11_forget 41 [some (vR 468), some (vI p), some (vI i)] [vI (if (iv M 486 (20 * p + 5 * i + (0 : Int)).toNat) ≠ (0 : Int) then (-1 : Int) else (2 : Int)), vR 468] M Q := by
        have K7 : ∀ v4 : Int, v4 = ((if (iv M 486 (20 * p + 5 * i + (0 : Int)).toNat) ≠ (0 : Int) then (-1 : Int) else (2 : Int))) → Run (e + 1) mX11_forget 41 [some (vR 468), some (vI p), some (vI i)] [vI v4, vR 468] M Q := by
          intro v4 hv6
          exact (((h.1 c1).1 c2).2 v4 hv6)
        exact K7 _ rfl
      refine r_if_ne dX11_forget_33 rfl (fun q8 => ?_) (fun q8 => ?_)
      · rw [if_pos q8] at K5
        refine r_iconst dX11_forget_40 (by decide) ?_
        exact K5
      · rw [if_neg q8] at K5
        refine r_iconst dX11_forget_36 (by decide) ?_
        refine r_goto (tgt := 41) dX11_forget_37 rfl ?_
        exact K5
    · refine r_iconst dX11_forget_22 (by decide) ?_
      refine r_goto (tgt := 41) dX11_forget_23 rfl ?_
      exact ((h.1 c1).2 c2)
  · refine r_iconst dX11_forget_9 (by decide) ?_
    refine r_goto (tgt := 41) dX11_forget_10 rfl ?_
    exact (h.2 c1)
theorem vn_forget_41 {e : Nat} {M : jM} {Q : Option jV → jM → Prop} {p : Int} {i : Int} {k0 : Int}  (he : 6 ≤ e) (hS : Shp M)
  (h : Call e mX11_isRefused [vR 468, vI k0] M (fun r13 M11 => ∃ z10 : Int, r13 = some (vI z10) ∧ Shp M11 ∧ (((z10 = (0 : Int)) → (Call e mX11_keep [vR 468] M11 (fun r19 M17 => r19 = none ∧ Shp M17 ∧ (((0 ≤ p ∧ p < 8) ∧ (0 ≤ i ∧ i < 4)) ∧ (∀ N22 : jM, N22 = (si M17 486 (20 * p + 5 * i + (0 : Int)).toNat (0 : Int)) → Shp N22 → (Q (some (vI (iv N22 486 (20 * p + 5 * i + (1 : Int)).toNat))) N22)))))) ∧ (¬ (z10 = (0 : Int)) → (Q (some (vI (-1 : Int))) M11))))) :
  Run (e + 1) mX11_forget 41 [some (vR 468), some (vI p), some (vI i)] [vI k0, vR 468] M Q := by
  refine r_invV_i dX11_forget_41 kM11_381 (by decide) (Nat.le_of_ble_eq_true rfl) rfl rfl (Nat.le_of_ble_eq_true rfl) (Nat.le_of_ble_eq_true rfl) (sh_o hS kk468 (by decide)) (Call.mono h (Nat.le_refl _) ?_)
  rintro _ M11 ⟨z10, rfl, s14, h12⟩
  refine ⟨_, rfl, ?_⟩
  refine r_if_eq dX11_forget_44 rfl (fun c15 => ?_) (fun c15 => ?_)
  · refine r_aload_n dX11_forget_49 rfl ?_
    refine r_invV_v dX11_forget_50 kM11_384 (by decide) (Nat.le_of_ble_eq_true rfl) rfl rfl (Nat.le_of_ble_eq_true rfl) (Nat.le_of_ble_eq_true rfl) (sh_o s14 kk468 (by decide)) (Call.mono (h12.1 c15) (Nat.le_refl _) ?_)
    rintro _ M17 ⟨rfl, s20, h18⟩
    refine ⟨rfl, ?_⟩
    refine r_aload_n dX11_forget_53 rfl ?_
    refine r_iload_n dX11_forget_54 rfl ?_
    refine r_iload_n dX11_forget_55 rfl ?_
    refine r_iconst dX11_forget_56 (by decide) ?_
    refine r_iconst dX11_forget_57 (by decide) ?_
    have ob21 := h18.1
    refine r_invV_v dX11_forget_58 kM11_277 (by decide) (Nat.le_of_ble_eq_true rfl) rfl rfl (Nat.le_of_ble_eq_true rfl) (Nat.le_of_ble_eq_true rfl) (sh_o s20 kk468 (by decide)) (m_set (by omega) s20 ⟨ob21.1, ob21.2, by decide⟩ ⟨rfl, ?_⟩)
    have K25 : ∀ N22 : jM, N22 = (si M17 486 (20 * p + 5 * i + (0 : Int)).toNat (0 : Int)) → Run (e + 1) mX11_forget 61 [some (vR 468), some (vI p), some (vI i)] [] N22 Q := by
      intro N22 hN24
      have sN23 : Shp N22 := by rw [hN24]; exact s20
      refine r_aload_n dX11_forget_61 rfl ?_
      refine r_iload_n dX11_forget_62 rfl ?_
      refine r_iload_n dX11_forget_63 rfl ?_
      refine r_iconst dX11_forget_64 (by decide) ?_
      refine r_invV_i dX11_forget_65 kM11_271 (by decide) (Nat.le_of_ble_eq_true rfl) rfl rfl (Nat.le_of_ble_eq_true rfl) (Nat.le_of_ble_eq_true rfl) (sh_o sN23 kk468 (by decide)) (m_of (by omega) sN23 ⟨ob21.1, ob21.2, by decide⟩ ⟨_, rfl, ?_⟩)
      exact r_iret dX11_forget_68 rfl (h18.2 N22 hN24 sN23)
    exact K25 _ rfl
  · refine r_iconst dX11_forget_47 (by decide) ?_
    exact r_iret dX11_forget_48 rfl (h12.2 c15)
theorem vn_hem {e : Nat} {M : jM} {Q : Option jV → jM → Prop} {p : Int} {n : Int} (he : 6 ≤ e) (hS : Shp M)
  (h : (((fIn p 0 (w32 (iv M 468 25 - 1))) ≠ (0 : Int)) → ((((fIn n (1 : Int) (9 : Int)) ≠ (0 : Int)) → ((((iv M 486 169) < n) → (Run (e + 1) mX11_hem 61 [some (vR 468), some (vI p), some (vI n)] [vI (3 : Int), vR 468] M Q)) ∧ (¬ ((iv M 486 169) < n) → ((0 ≤ (w32 ((160 : Int) + p)) ∧ (w32 ((160 : Int) + p)) < 352) ∧ (∀ v5 : Int, v5 = ((if (w32 ((iv M 486 (w32 ((160 : Int) + p)).toNat) + n)) ≤ (99 : Int) then (-1 : Int) else (3 : Int))) → (Run (e + 1) mX11_hem 61 [some (vR 468), some (vI p), some (vI n)] [vI v5, vR 468] M Q)))))) ∧ (¬ ((fIn n (1 : Int) (9 : Int)) ≠ (0 : Int)) → (Run (e + 1) mX11_hem 61 [some (vR 468), some (vI p), some (vI n)] [vI (1 : Int), vR 468] M Q)))) ∧ (¬ ((fIn p 0 (w32 (iv M 468 25 - 1))) ≠ (0 : Int)) → (Run (e + 1) mX11_hem 61 [some (vR 468), some (vI p), some (vI n)] [vI (0 : Int), vR 468] M Q))) :
  Call (e + 1) mX11_hem [vR 468, vI p, vI n] M Q := by
  show Run (e + 1) mX11_hem 0 [some (vR 468), some (vI p), some (vI n)] [] M Q
  refine r_aload_n dX11_hem_0 rfl ?_
  refine r_aload_n dX11_hem_1 rfl ?_
  refine r_iload_n dX11_hem_2 rfl ?_
  refine r_invV_i dX11_hem_3 kM11_309 (by decide) (Nat.le_of_ble_eq_true rfl) rfl rfl (Nat.le_of_ble_eq_true rfl) (Nat.le_of_ble_eq_true rfl) (sh_o hS kk468 (by decide)) (m_isPerson (by omega) hS ⟨_, rfl, ?_⟩)
  refine r_if_ne dX11_hem_6 rfl (fun c1 => ?_) (fun c1 => ?_)
  · refine r_iload_n dX11_hem_13 rfl ?_
    refine r_iconst dX11_hem_14 (by decide) ?_
    refine r_bipush dX11_hem_15 (by decide) ?_
    refine r_invS_i dX11_hem_17 (by decide) kXn11_224 kM11_224 (by decide) (Nat.le_of_ble_eq_true rfl) rfl rfl (Nat.le_of_ble_eq_true rfl) (Nat.le_of_ble_eq_true rfl) (m_in (by omega) hS ⟨_, rfl, ?_⟩)
    refine r_if_ne dX11_hem_20 rfl (fun c2 => ?_) (fun c2 => ?_)
    · refine r_aload_n dX11_hem_27 rfl ?_
      refine r_getS (v := 486) dX11_hem_28 kF11_61 (sh_o hS kk468 (by decide)) (sh_f hS rr468_28 (by decide)) ?_
      refine r_sipush dX11_hem_31 (by decide) ?_
      refine r_ialoadK (k := 169) dX11_hem_34 rfl (jro_ix (n := 352) (sh_r hS kk486 (by decide)) (by decide)) ?_
      refine r_iload_n dX11_hem_35 rfl ?_
      refine r_icmp_lt dX11_hem_36 rfl (fun c3 => ?_) (fun c3 => ?_)
      · refine r_iconst dX11_hem_56 (by decide) ?_
        refine r_goto (tgt := 61) dX11_hem_57 rfl ?_
        exact (((h.1 c1).1 c2).1 c3)
      · refine r_aload_n dX11_hem_39 rfl ?_
        refine r_getS (v := 486) dX11_hem_40 kF11_61 (sh_o hS kk468 (by decide)) (sh_f hS rr468_28 (by decide)) ?_
        refine r_sipush dX11_hem_43 (by decide) ?_
        refine r_iload_n dX11_hem_46 rfl ?_
        refine r_iadd dX11_hem_47 ?_
        have ob4 := (((h.1 c1).1 c2).2 c3).1
        refine r_iaload dX11_hem_48 (jro_ix (sh_r hS kk486 (by decide)) ob4) ?_
        refine r_iload_n dX11_hem_49 rfl ?_
        refine r_iadd dX11_hem_50 ?_
        refine r_bipush dX11_hem_51 (by decide) ?_
        have K6 : Run (e + 1) mX11_hem 61 [some (vR 468), some (vI p), some (vI n)] [vI (if (w32 ((iv M 486 (w32 ((160 : Int) + p)).toNat) + n)) ≤ (99 : Int) then (-1 : Int) else (3 : Int)), vR 468] M Q := by
          have K8 : ∀ v5 : Int, v5 = ((if (w32 ((iv M 486 (w32 ((160 : Int) + p)).toNat) + n)) ≤ (99 : Int) then (-1 : Int) else (3 : Int))) → Run (e + 1) mX11_hem 61 [some (vR 468), some (vI p), some (vI n)] [vI v5, vR 468] M Q := by
            intro v5 hv7
            exact ((((h.1 c1).1 c2).2 c3).2 v5 hv7)
          exact K8 _ rfl
        refine r_icmp_le dX11_hem_53 rfl (fun q9 => ?_) (fun q9 => ?_)
        · rw [if_pos q9] at K6
          refine r_iconst dX11_hem_60 (by decide) ?_
          exact K6
        · rw [if_neg q9] at K6
          refine r_iconst dX11_hem_56 (by decide) ?_
          refine r_goto (tgt := 61) dX11_hem_57 rfl ?_
          exact K6
    · refine r_iconst dX11_hem_23 (by decide) ?_
      refine r_goto (tgt := 61) dX11_hem_24 rfl ?_
      exact ((h.1 c1).2 c2)
  · refine r_iconst dX11_hem_9 (by decide) ?_
    refine r_goto (tgt := 61) dX11_hem_10 rfl ?_
    exact (h.2 c1)
theorem vn_hem_61 {e : Nat} {M : jM} {Q : Option jV → jM → Prop} {p : Int} {n : Int} {k0 : Int}  (he : 6 ≤ e) (hS : Shp M)
  (h : Call e mX11_isRefused [vR 468, vI k0] M (fun r14 M12 => ∃ z11 : Int, r14 = some (vI z11) ∧ Shp M12 ∧ (((z11 = (0 : Int)) → (Call e mX11_keep [vR 468] M12 (fun r20 M18 => r20 = none ∧ Shp M18 ∧ (∀ N22 : jM, N22 = (si M18 486 169 (w32 ((iv M18 486 169) - n))) → Shp N22 → ((0 ≤ (w32 ((160 : Int) + p)) ∧ (w32 ((160 : Int) + p)) < 352) ∧ (∀ N25 : jM, N25 = (si N22 486 (w32 ((160 : Int) + p)).toNat (w32 ((iv N22 486 (w32 ((160 : Int) + p)).toNat) + n))) → Shp N25 → (Q (some (vI (iv N25 486 (w32 ((160 : Int) + p)).toNat))) N25))))))) ∧ (¬ (z11 = (0 : Int)) → (Q (some (vI (-1 : Int))) M12))))) :
  Run (e + 1) mX11_hem 61 [some (vR 468), some (vI p), some (vI n)] [vI k0, vR 468] M Q := by
  refine r_invV_i dX11_hem_61 kM11_381 (by decide) (Nat.le_of_ble_eq_true rfl) rfl rfl (Nat.le_of_ble_eq_true rfl) (Nat.le_of_ble_eq_true rfl) (sh_o hS kk468 (by decide)) (Call.mono h (Nat.le_refl _) ?_)
  rintro _ M12 ⟨z11, rfl, s15, h13⟩
  refine ⟨_, rfl, ?_⟩
  refine r_if_eq dX11_hem_64 rfl (fun c16 => ?_) (fun c16 => ?_)
  · refine r_aload_n dX11_hem_69 rfl ?_
    refine r_invV_v dX11_hem_70 kM11_384 (by decide) (Nat.le_of_ble_eq_true rfl) rfl rfl (Nat.le_of_ble_eq_true rfl) (Nat.le_of_ble_eq_true rfl) (sh_o s15 kk468 (by decide)) (Call.mono (h13.1 c16) (Nat.le_refl _) ?_)
    rintro _ M18 ⟨rfl, s21, h19⟩
    refine ⟨rfl, ?_⟩
    refine r_aload_n dX11_hem_73 rfl ?_
    refine r_getS (v := 486) dX11_hem_74 kF11_61 (sh_o s21 kk468 (by decide)) (sh_f s21 rr468_28 (by decide)) ?_
    refine r_sipush dX11_hem_77 (by decide) ?_
    refine r_dup2IR dX11_hem_80 ?_
    refine r_ialoadK (k := 169) dX11_hem_81 rfl (jro_ix (n := 352) (sh_r s21 kk486 (by decide)) (by decide)) ?_
    refine r_iload_n dX11_hem_82 rfl ?_
    refine r_isub dX11_hem_83 ?_
    refine r_iastoreK (k := 169) dX11_hem_84 rfl ⟨jro_ix (n := 352) (sh_r s21 kk486 (by decide)) (by decide), (by decide)⟩ ?_
    have K28 : ∀ N22 : jM, N22 = (si M18 486 169 (w32 ((iv M18 486 169) - n))) → Run (e + 1) mX11_hem 85 [some (vR 468), some (vI p), some (vI n)] [] N22 Q := by
      intro N22 hN27
      have sN23 : Shp N22 := by rw [hN27]; exact s21
      refine r_aload_n dX11_hem_85 rfl ?_
      refine r_getS (v := 486) dX11_hem_86 kF11_61 (sh_o sN23 kk468 (by decide)) (sh_f sN23 rr468_28 (by decide)) ?_
      refine r_sipush dX11_hem_89 (by decide) ?_
      refine r_iload_n dX11_hem_92 rfl ?_
      refine r_iadd dX11_hem_93 ?_
      refine r_dup2IR dX11_hem_94 ?_
      have ob24 := (h19 N22 hN27 sN23).1
      refine r_iaload dX11_hem_95 (jro_ix (sh_r sN23 kk486 (by decide)) ob24) ?_
      refine r_iload_n dX11_hem_96 rfl ?_
      refine r_iadd dX11_hem_97 ?_
      refine r_iastore dX11_hem_98 ⟨jro_ix (sh_r sN23 kk486 (by decide)) ob24, (by decide)⟩ ?_
      have K30 : ∀ N25 : jM, N25 = (si N22 486 (w32 ((160 : Int) + p)).toNat (w32 ((iv N22 486 (w32 ((160 : Int) + p)).toNat) + n))) → Run (e + 1) mX11_hem 99 [some (vR 468), some (vI p), some (vI n)] [] N25 Q := by
        intro N25 hN29
        have sN26 : Shp N25 := by rw [hN29]; exact sN23
        refine r_aload_n dX11_hem_99 rfl ?_
        refine r_getS (v := 486) dX11_hem_100 kF11_61 (sh_o sN26 kk468 (by decide)) (sh_f sN26 rr468_28 (by decide)) ?_
        refine r_sipush dX11_hem_103 (by decide) ?_
        refine r_iload_n dX11_hem_106 rfl ?_
        refine r_iadd dX11_hem_107 ?_
        refine r_iaload dX11_hem_108 (jro_ix (sh_r sN26 kk486 (by decide)) ob24) ?_
        exact r_iret dX11_hem_109 rfl ((h19 N22 hN27 sN23).2 N25 hN29 sN26)
      exact K30 _ rfl
    exact K28 _ rfl
  · refine r_iconst dX11_hem_67 (by decide) ?_
    exact r_iret dX11_hem_68 rfl (h13.2 c16)
theorem vn_wind {e : Nat} {M : jM} {Q : Option jV → jM → Prop} {v : Int} (he : 6 ≤ e) (hS : Shp M)
  (h : ∀ v1 : Int, v1 = ((if (iv M 468 25) ≠ (0 : Int) then (if (fIn v (0 : Int) (9 : Int)) ≠ (0 : Int) then (if v ≠ (iv M 486 168) then (-1 : Int) else (2 : Int)) else (1 : Int)) else (0 : Int))) → (Call e mX11_isRefused [vR 468, vI v1] M (fun r5 M3 => ∃ z2 : Int, r5 = some (vI z2) ∧ Shp M3 ∧ (((z2 = (0 : Int)) → (Call e mX11_keep [vR 468] M3 (fun r11 M9 => r11 = none ∧ Shp M9 ∧ (∀ N13 : jM, N13 = (si M9 486 168 v) → Shp N13 → (Q (some (vI (iv M9 486 168))) N13))))) ∧ (¬ (z2 = (0 : Int)) → (Q (some (vI (-1 : Int))) M3)))))) :
  Call (e + 1) mX11_wind [vR 468, vI v] M Q := by
  show Run (e + 1) mX11_wind 0 [some (vR 468), some (vI v), none] [] M Q
  refine r_aload_n dX11_wind_0 rfl ?_
  refine r_aload_n dX11_wind_1 rfl ?_
  refine r_get0 dX11_wind_2 kF11_287 (sh_o hS kk468 (by decide)) ?_
  have K15 : Run (e + 1) mX11_wind 43 [some (vR 468), some (vI v), none] [vI (if (iv M 468 25) ≠ (0 : Int) then (if (fIn v (0 : Int) (9 : Int)) ≠ (0 : Int) then (if v ≠ (iv M 486 168) then (-1 : Int) else (2 : Int)) else (1 : Int)) else (0 : Int)), vR 468] M Q := by
    have K17 : ∀ v1 : Int, v1 = ((if (iv M 468 25) ≠ (0 : Int) then (if (fIn v (0 : Int) (9 : Int)) ≠ (0 : Int) then (if v ≠ (iv M 486 168) then (-1 : Int) else (2 : Int)) else (1 : Int)) else (0 : Int))) → Run (e + 1) mX11_wind 43 [some (vR 468), some (vI v), none] [vI v1, vR 468] M Q := by
      intro v1 hv16
      refine r_invV_i dX11_wind_43 kM11_381 (by decide) (Nat.le_of_ble_eq_true rfl) rfl rfl (Nat.le_of_ble_eq_true rfl) (Nat.le_of_ble_eq_true rfl) (sh_o hS kk468 (by decide)) (Call.mono (h v1 hv16) (Nat.le_refl _) ?_)
      rintro _ M3 ⟨z2, rfl, s6, h4⟩
      refine ⟨_, rfl, ?_⟩
      refine r_if_eq dX11_wind_46 rfl (fun c7 => ?_) (fun c7 => ?_)
      · refine r_aload_n dX11_wind_51 rfl ?_
        refine r_invV_v dX11_wind_52 kM11_384 (by decide) (Nat.le_of_ble_eq_true rfl) rfl rfl (Nat.le_of_ble_eq_true rfl) (Nat.le_of_ble_eq_true rfl) (sh_o s6 kk468 (by decide)) (Call.mono (h4.1 c7) (Nat.le_refl _) ?_)
        rintro _ M9 ⟨rfl, s12, h10⟩
        refine ⟨rfl, ?_⟩
        refine r_aload_n dX11_wind_55 rfl ?_
        refine r_getS (v := 486) dX11_wind_56 kF11_61 (sh_o s12 kk468 (by decide)) (sh_f s12 rr468_28 (by decide)) ?_
        refine r_sipush dX11_wind_59 (by decide) ?_
        refine r_ialoadK (k := 168) dX11_wind_62 rfl (jro_ix (n := 352) (sh_r s12 kk486 (by decide)) (by decide)) ?_
        refine r_istore_n (ls2 := [some (vR 468), some (vI v), some (vI (iv M9 486 168))]) dX11_wind_63 (Nat.le_of_ble_eq_true rfl) rfl ?_
        refine r_aload_n dX11_wind_64 rfl ?_
        refine r_getS (v := 486) dX11_wind_65 kF11_61 (sh_o s12 kk468 (by decide)) (sh_f s12 rr468_28 (by decide)) ?_
        refine r_sipush dX11_wind_68 (by decide) ?_
        refine r_iload_n dX11_wind_71 rfl ?_
        refine r_iastoreK (k := 168) dX11_wind_72 rfl ⟨jro_ix (n := 352) (sh_r s12 kk486 (by decide)) (by decide), (by decide)⟩ ?_
        have K19 : ∀ N13 : jM, N13 = (si M9 486 168 v) → Run (e + 1) mX11_wind 73 [some (vR 468), some (vI v), some (vI (iv M9 486 168))] [] N13 Q := by
          intro N13 hN18
          have sN14 : Shp N13 := by rw [hN18]; exact s12
          refine r_iload_n dX11_wind_73 rfl ?_
          exact r_iret dX11_wind_74 rfl (h10 N13 hN18 sN14)
        exact K19 _ rfl
      · refine r_iconst dX11_wind_49 (by decide) ?_
        exact r_iret dX11_wind_50 rfl (h4.2 c7)
    exact K17 _ rfl
  refine r_if_ne dX11_wind_5 rfl (fun q20 => ?_) (fun q20 => ?_)
  · rw [if_pos q20] at K15
    refine r_iload_n dX11_wind_12 rfl ?_
    refine r_iconst dX11_wind_13 (by decide) ?_
    refine r_bipush dX11_wind_14 (by decide) ?_
    refine r_invS_i dX11_wind_16 (by decide) kXn11_224 kM11_224 (by decide) (Nat.le_of_ble_eq_true rfl) rfl rfl (Nat.le_of_ble_eq_true rfl) (Nat.le_of_ble_eq_true rfl) (m_in (by omega) hS ⟨_, rfl, ?_⟩)
    refine r_if_ne dX11_wind_19 rfl (fun q22 => ?_) (fun q22 => ?_)
    · rw [if_pos q22] at K15
      refine r_iload_n dX11_wind_26 rfl ?_
      refine r_aload_n dX11_wind_27 rfl ?_
      refine r_getS (v := 486) dX11_wind_28 kF11_61 (sh_o hS kk468 (by decide)) (sh_f hS rr468_28 (by decide)) ?_
      refine r_sipush dX11_wind_31 (by decide) ?_
      refine r_ialoadK (k := 168) dX11_wind_34 rfl (jro_ix (n := 352) (sh_r hS kk486 (by decide)) (by decide)) ?_
      refine r_icmp_ne dX11_wind_35 rfl (fun q24 => ?_) (fun q24 => ?_)
      · rw [if_pos q24] at K15
        refine r_iconst dX11_wind_42 (by decide) ?_
        exact K15
      · rw [if_neg q24] at K15
        refine r_iconst dX11_wind_38 (by decide) ?_
        refine r_goto (tgt := 43) dX11_wind_39 rfl ?_
        exact K15
    · rw [if_neg q22] at K15
      refine r_iconst dX11_wind_22 (by decide) ?_
      refine r_goto (tgt := 43) dX11_wind_23 rfl ?_
      exact K15
  · rw [if_neg q20] at K15
    refine r_iconst dX11_wind_8 (by decide) ?_
    refine r_goto (tgt := 43) dX11_wind_9 rfl ?_
    exact K15
theorem vn_give {e : Nat} {M : jM} {Q : Option jV → jM → Prop} {n : Int} (he : 6 ≤ e) (hS : Shp M)
  (h : ∀ v1 : Int, v1 = ((if (iv M 468 25) ≠ (0 : Int) then (if (fIn n (1 : Int) (50 : Int)) ≠ (0 : Int) then (if (w32 ((iv M 486 169) + n)) ≤ (999 : Int) then (-1 : Int) else (3 : Int)) else (1 : Int)) else (0 : Int))) → (Call e mX11_isRefused [vR 468, vI v1] M (fun r5 M3 => ∃ z2 : Int, r5 = some (vI z2) ∧ Shp M3 ∧ (((z2 = (0 : Int)) → (Call e mX11_keep [vR 468] M3 (fun r11 M9 => r11 = none ∧ Shp M9 ∧ (∀ N13 : jM, N13 = (si M9 486 169 (w32 ((iv M9 486 169) + n))) → Shp N13 → (Q (some (vI (iv N13 486 169))) N13))))) ∧ (¬ (z2 = (0 : Int)) → (Q (some (vI (-1 : Int))) M3)))))) :
  Call (e + 1) mX11_give [vR 468, vI n] M Q := by
  show Run (e + 1) mX11_give 0 [some (vR 468), some (vI n)] [] M Q
  refine r_aload_n dX11_give_0 rfl ?_
  refine r_aload_n dX11_give_1 rfl ?_
  refine r_get0 dX11_give_2 kF11_287 (sh_o hS kk468 (by decide)) ?_
  have K15 : Run (e + 1) mX11_give 47 [some (vR 468), some (vI n)] [vI (if (iv M 468 25) ≠ (0 : Int) then (if (fIn n (1 : Int) (50 : Int)) ≠ (0 : Int) then (if (w32 ((iv M 486 169) + n)) ≤ (999 : Int) then (-1 : Int) else (3 : Int)) else (1 : Int)) else (0 : Int)), vR 468] M Q := by
    have K17 : ∀ v1 : Int, v1 = ((if (iv M 468 25) ≠ (0 : Int) then (if (fIn n (1 : Int) (50 : Int)) ≠ (0 : Int) then (if (w32 ((iv M 486 169) + n)) ≤ (999 : Int) then (-1 : Int) else (3 : Int)) else (1 : Int)) else (0 : Int))) → Run (e + 1) mX11_give 47 [some (vR 468), some (vI n)] [vI v1, vR 468] M Q := by
      intro v1 hv16
      refine r_invV_i dX11_give_47 kM11_381 (by decide) (Nat.le_of_ble_eq_true rfl) rfl rfl (Nat.le_of_ble_eq_true rfl) (Nat.le_of_ble_eq_true rfl) (sh_o hS kk468 (by decide)) (Call.mono (h v1 hv16) (Nat.le_refl _) ?_)
      rintro _ M3 ⟨z2, rfl, s6, h4⟩
      refine ⟨_, rfl, ?_⟩
      refine r_if_eq dX11_give_50 rfl (fun c7 => ?_) (fun c7 => ?_)
      · refine r_aload_n dX11_give_55 rfl ?_
        refine r_invV_v dX11_give_56 kM11_384 (by decide) (Nat.le_of_ble_eq_true rfl) rfl rfl (Nat.le_of_ble_eq_true rfl) (Nat.le_of_ble_eq_true rfl) (sh_o s6 kk468 (by decide)) (Call.mono (h4.1 c7) (Nat.le_refl _) ?_)
        rintro _ M9 ⟨rfl, s12, h10⟩
        refine ⟨rfl, ?_⟩
        refine r_aload_n dX11_give_59 rfl ?_
        refine r_getS (v := 486) dX11_give_60 kF11_61 (sh_o s12 kk468 (by decide)) (sh_f s12 rr468_28 (by decide)) ?_
        refine r_sipush dX11_give_63 (by decide) ?_
        refine r_dup2IR dX11_give_66 ?_
        refine r_ialoadK (k := 169) dX11_give_67 rfl (jro_ix (n := 352) (sh_r s12 kk486 (by decide)) (by decide)) ?_
        refine r_iload_n dX11_give_68 rfl ?_
        refine r_iadd dX11_give_69 ?_
        refine r_iastoreK (k := 169) dX11_give_70 rfl ⟨jro_ix (n := 352) (sh_r s12 kk486 (by decide)) (by decide), (by decide)⟩ ?_
        have K19 : ∀ N13 : jM, N13 = (si M9 486 169 (w32 ((iv M9 486 169) + n))) → Run (e + 1) mX11_give 71 [some (vR 468), some (vI n)] [] N13 Q := by
          intro N13 hN18
          have sN14 : Shp N13 := by rw [hN18]; exact s12
          refine r_aload_n dX11_give_71 rfl ?_
          refine r_getS (v := 486) dX11_give_72 kF11_61 (sh_o sN14 kk468 (by decide)) (sh_f sN14 rr468_28 (by decide)) ?_
          refine r_sipush dX11_give_75 (by decide) ?_
          refine r_ialoadK (k := 169) dX11_give_78 rfl (jro_ix (n := 352) (sh_r sN14 kk486 (by decide)) (by decide)) ?_
          exact r_iret dX11_give_79 rfl (h10 N13 hN18 sN14)
        exact K19 _ rfl
      · refine r_iconst dX11_give_53 (by decide) ?_
        exact r_iret dX11_give_54 rfl (h4.2 c7)
    exact K17 _ rfl
  refine r_if_ne dX11_give_5 rfl (fun q20 => ?_) (fun q20 => ?_)
  · rw [if_pos q20] at K15
    refine r_iload_n dX11_give_12 rfl ?_
    refine r_iconst dX11_give_13 (by decide) ?_
    refine r_bipush dX11_give_14 (by decide) ?_
    refine r_invS_i dX11_give_16 (by decide) kXn11_224 kM11_224 (by decide) (Nat.le_of_ble_eq_true rfl) rfl rfl (Nat.le_of_ble_eq_true rfl) (Nat.le_of_ble_eq_true rfl) (m_in (by omega) hS ⟨_, rfl, ?_⟩)
    refine r_if_ne dX11_give_19 rfl (fun q22 => ?_) (fun q22 => ?_)
    · rw [if_pos q22] at K15
      refine r_aload_n dX11_give_26 rfl ?_
      refine r_getS (v := 486) dX11_give_27 kF11_61 (sh_o hS kk468 (by decide)) (sh_f hS rr468_28 (by decide)) ?_
      refine r_sipush dX11_give_30 (by decide) ?_
      refine r_ialoadK (k := 169) dX11_give_33 rfl (jro_ix (n := 352) (sh_r hS kk486 (by decide)) (by decide)) ?_
      refine r_iload_n dX11_give_34 rfl ?_
      refine r_iadd dX11_give_35 ?_
      refine r_sipush dX11_give_36 (by decide) ?_
      refine r_icmp_le dX11_give_39 rfl (fun q24 => ?_) (fun q24 => ?_)
      · rw [if_pos q24] at K15
        refine r_iconst dX11_give_46 (by decide) ?_
        exact K15
      · rw [if_neg q24] at K15
        refine r_iconst dX11_give_42 (by decide) ?_
        refine r_goto (tgt := 47) dX11_give_43 rfl ?_
        exact K15
    · rw [if_neg q22] at K15
      refine r_iconst dX11_give_22 (by decide) ?_
      refine r_goto (tgt := 47) dX11_give_23 rfl ?_
      exact K15
  · rw [if_neg q20] at K15
    refine r_iconst dX11_give_8 (by decide) ?_
    refine r_goto (tgt := 47) dX11_give_9 rfl ?_
    exact K15
theorem vn_draw {e : Nat} {M : jM} {Q : Option jV → jM → Prop} {mm : Int} (he : 6 ≤ e) (hS : Shp M)
  (h : ∀ v1 : Int, v1 = (w64 ((w64 ((lg M 468 34) * (6364136223846793005 : Int))) + (1442695040888963407 : Int))) → (∀ N2 : jM, N2 = (sl M 468 34 v1) → Shp N2 → (mm ≠ 0 ∧ (Q (some (vI (w32 (jremL (jushrL (lg N2 468 34) (33 : Int)) mm)))) N2)))) :
  Call (e + 1) mX11_draw [vR 468, vI mm] M Q := by
  show Run (e + 1) mX11_draw 0 [some (vR 468), some (vI mm)] [] M Q
  refine r_aload_n dX11_draw_0 rfl ?_
  refine r_aload_n dX11_draw_1 rfl ?_
  refine r_get1 dX11_draw_2 kF11_390 (sh_o hS kk468 (by decide)) ?_
  refine r_ldc2 dX11_draw_5 kL11_394 ?_
  refine r_lmul dX11_draw_8 ?_
  refine r_ldc2 dX11_draw_9 kL11_396 ?_
  refine r_ladd dX11_draw_12 ?_
  have K6 : ∀ v1 : Int, v1 = (w64 ((w64 ((lg M 468 34) * (6364136223846793005 : Int))) + (1442695040888963407 : Int))) → Run (e + 1) mX11_draw 13 [some (vR 468), some (vI mm)] [vL v1, vR 468] M Q := by
    intro v1 hv5
    refine r_put1 dX11_draw_13 kF11_390 (sh_o hS kk468 (by decide)) (Or.inl rfl) ?_
    have K8 : ∀ N2 : jM, N2 = (sl M 468 34 v1) → Run (e + 1) mX11_draw 16 [some (vR 468), some (vI mm)] [] N2 Q := by
      intro N2 hN7
      have sN3 : Shp N2 := by rw [hN7]; exact hS
      refine r_aload_n dX11_draw_16 rfl ?_
      refine r_get1 dX11_draw_17 kF11_390 (sh_o sN3 kk468 (by decide)) ?_
      refine r_bipush dX11_draw_20 (by decide) ?_
      refine r_lushr dX11_draw_22 ?_
      refine r_iload_n dX11_draw_23 rfl ?_
      refine r_i2l dX11_draw_24 ?_
      have ob4 := ((h v1 hv5) N2 hN7 sN3).1
      refine r_lrem dX11_draw_25 ob4 ?_
      refine r_l2i dX11_draw_26 ?_
      exact r_iret dX11_draw_27 rfl ((h v1 hv5) N2 hN7 sN3).2
    exact K8 _ rfl
  exact K6 _ rfl
theorem vn_drawHour {e : Nat} {M : jM} {Q : Option jV → jM → Prop}  (he : 6 ≤ e) (hS : Shp M)
  (h : Call e mX11_draw [vR 468, vI (10 : Int)] M (fun r4 M2 => ∃ z1 : Int, r4 = some (vI z1) ∧ Shp M2 ∧ (∀ N6 : jM, N6 = (si M2 486 168 z1) → Shp N6 → (Call e mX11_draw [vR 468, vI (10 : Int)] N6 (fun r11 M9 => ∃ z8 : Int, r11 = some (vI z8) ∧ Shp M9 ∧ ((((iv M9 468 31) ≤ z8) → (Q none M9)) ∧ (¬ ((iv M9 468 31) ≤ z8) → (Call e mX11_draw [vR 468, vI (iv M9 468 25)] M9 (fun r17 M15 => ∃ z14 : Int, r17 = some (vI z14) ∧ Shp M15 ∧ (Call e mX11_draw [vR 468, vI (iv M15 468 25)] M15 (fun r22 M20 => ∃ z19 : Int, r22 = some (vI z19) ∧ Shp M20 ∧ (Call e mX11_draw [vR 468, vI (3 : Int)] M20 (fun r27 M25 => ∃ z24 : Int, r27 = some (vI z24) ∧ Shp M25 ∧ (Call e mX11_draw [vR 468, vI (9 : Int)] M25 (fun r32 M30 => ∃ z29 : Int, r32 = some (vI z29) ∧ Shp M30 ∧ (((z14 = z19) → (Q none M30)) ∧ (¬ (z14 = z19) → ((0 ≤ z14 ∧ z14 < 8) ∧ ((((fGm (iv M30 483 (3 * z14 + 2).toNat) z24) = (0 : Int)) → (Q none M30)) ∧ (¬ ((fGm (iv M30 483 (3 * z14 + 2).toNat) z24) = (0 : Int)) → (Call e mX11_emptyIn [vR 468, vI z14] M30 (fun r40 M38 => ∃ z37 : Int, r40 = some (vI z37) ∧ Shp M38 ∧ (((z37 = (-1 : Int)) → (Q none M38)) ∧ (¬ (z37 = (-1 : Int)) → (Call e mX11_putThought [vR 468, vI z14, vI z19, vI z24, vI (w32 (z29 + (1 : Int)))] M38 (fun r46 M44 => r46 = none ∧ Shp M44 ∧ (Q none M44))))))))))))))))))))))))))) :
  Call (e + 1) mX11_drawHour [vR 468] M Q := by
  show Run (e + 1) mX11_drawHour 0 [some (vR 468), none, none, none, none] [] M Q
  refine r_aload_n dX11_drawHour_0 rfl ?_
  refine r_getS (v := 486) dX11_drawHour_1 kF11_61 (sh_o hS kk468 (by decide)) (sh_f hS rr468_28 (by decide)) ?_
  refine r_sipush dX11_drawHour_4 (by decide) ?_
  refine r_aload_n dX11_drawHour_7 rfl ?_
  refine r_bipush dX11_drawHour_8 (by decide) ?_
  refine r_invV_i dX11_drawHour_10 kM11_398 (by decide) (Nat.le_of_ble_eq_true rfl) rfl rfl (Nat.le_of_ble_eq_true rfl) (Nat.le_of_ble_eq_true rfl) (sh_o hS kk468 (by decide)) (Call.mono h (Nat.le_refl _) ?_)
  rintro _ M2 ⟨z1, rfl, s5, h3⟩
  refine ⟨_, rfl, ?_⟩
  refine r_iastoreK (k := 168) dX11_drawHour_13 rfl ⟨jro_ix (n := 352) (sh_r s5 kk486 (by decide)) (by decide), (by decide)⟩ ?_
  have K49 : ∀ N6 : jM, N6 = (si M2 486 168 z1) → Run (e + 1) mX11_drawHour 14 [some (vR 468), none, none, none, none] [] N6 Q := by
    intro N6 hN48
    have sN7 : Shp N6 := by rw [hN48]; exact s5
    refine r_aload_n dX11_drawHour_14 rfl ?_
    refine r_bipush dX11_drawHour_15 (by decide) ?_
    refine r_invV_i dX11_drawHour_17 kM11_398 (by decide) (Nat.le_of_ble_eq_true rfl) rfl rfl (Nat.le_of_ble_eq_true rfl) (Nat.le_of_ble_eq_true rfl) (sh_o sN7 kk468 (by decide)) (Call.mono (h3 N6 hN48 sN7) (Nat.le_refl _) ?_)
    rintro _ M9 ⟨z8, rfl, s12, h10⟩
    refine ⟨_, rfl, ?_⟩
    refine r_aload_n dX11_drawHour_20 rfl ?_
    refine r_get0 dX11_drawHour_21 kF11_71 (sh_o s12 kk468 (by decide)) ?_
    refine r_icmp_ge dX11_drawHour_24 rfl (fun c13 => ?_) (fun c13 => ?_)
    · exact r_vret dX11_drawHour_93 rfl (h10.1 c13)
    · refine r_aload_n dX11_drawHour_27 rfl ?_
      refine r_aload_n dX11_drawHour_28 rfl ?_
      refine r_get0 dX11_drawHour_29 kF11_287 (sh_o s12 kk468 (by decide)) ?_
      refine r_invV_i dX11_drawHour_32 kM11_398 (by decide) (Nat.le_of_ble_eq_true rfl) rfl rfl (Nat.le_of_ble_eq_true rfl) (Nat.le_of_ble_eq_true rfl) (sh_o s12 kk468 (by decide)) (Call.mono (h10.2 c13) (Nat.le_refl _) ?_)
      rintro _ M15 ⟨z14, rfl, s18, h16⟩
      refine ⟨_, rfl, ?_⟩
      refine r_istore_n (ls2 := [some (vR 468), some (vI z14), none, none, none]) dX11_drawHour_35 (Nat.le_of_ble_eq_true rfl) rfl ?_
      refine r_aload_n dX11_drawHour_36 rfl ?_
      refine r_aload_n dX11_drawHour_37 rfl ?_
      refine r_get0 dX11_drawHour_38 kF11_287 (sh_o s18 kk468 (by decide)) ?_
      refine r_invV_i dX11_drawHour_41 kM11_398 (by decide) (Nat.le_of_ble_eq_true rfl) rfl rfl (Nat.le_of_ble_eq_true rfl) (Nat.le_of_ble_eq_true rfl) (sh_o s18 kk468 (by decide)) (Call.mono h16 (Nat.le_refl _) ?_)
      rintro _ M20 ⟨z19, rfl, s23, h21⟩
      refine ⟨_, rfl, ?_⟩
      refine r_istore_n (ls2 := [some (vR 468), some (vI z14), some (vI z19), none, none]) dX11_drawHour_44 (Nat.le_of_ble_eq_true rfl) rfl ?_
      refine r_aload_n dX11_drawHour_45 rfl ?_
      refine r_iconst dX11_drawHour_46 (by decide) ?_
      refine r_invV_i dX11_drawHour_47 kM11_398 (by decide) (Nat.le_of_ble_eq_true rfl) rfl rfl (Nat.le_of_ble_eq_true rfl) (Nat.le_of_ble_eq_true rfl) (sh_o s23 kk468 (by decide)) (Call.mono h21 (Nat.le_refl _) ?_)
      rintro _ M25 ⟨z24, rfl, s28, h26⟩
      refine ⟨_, rfl, ?_⟩
      refine r_istore_n (ls2 := [some (vR 468), some (vI z14), some (vI z19), some (vI z24), none]) dX11_drawHour_50 (Nat.le_of_ble_eq_true rfl) rfl ?_
      refine r_aload_n dX11_drawHour_51 rfl ?_
      refine r_bipush dX11_drawHour_52 (by decide) ?_
      refine r_invV_i dX11_drawHour_54 kM11_398 (by decide) (Nat.le_of_ble_eq_true rfl) rfl rfl (Nat.le_of_ble_eq_true rfl) (Nat.le_of_ble_eq_true rfl) (sh_o s28 kk468 (by decide)) (Call.mono h26 (Nat.le_refl _) ?_)
      rintro _ M30 ⟨z29, rfl, s33, h31⟩
      refine ⟨_, rfl, ?_⟩
      refine r_iconst dX11_drawHour_57 (by decide) ?_
      refine r_iadd dX11_drawHour_58 ?_
      refine r_istore (ls2 := [some (vR 468), some (vI z14), some (vI z19), some (vI z24), some (vI (w32 (z29 + (1 : Int))))]) dX11_drawHour_59 (Nat.le_of_ble_eq_true rfl) rfl ?_
      refine r_iload_n dX11_drawHour_61 rfl ?_
      refine r_iload_n dX11_drawHour_62 rfl ?_
      refine r_icmp_eq dX11_drawHour_63 rfl (fun c34 => ?_) (fun c34 => ?_)
      · exact r_vret dX11_drawHour_93 rfl (h31.1 c34)
      · refine r_aload_n dX11_drawHour_66 rfl ?_
        refine r_iload_n dX11_drawHour_67 rfl ?_
        refine r_iload_n dX11_drawHour_68 rfl ?_
        have ob35 := (h31.2 c34).1
        refine r_invV_i dX11_drawHour_69 kM11_375 (by decide) (Nat.le_of_ble_eq_true rfl) rfl rfl (Nat.le_of_ble_eq_true rfl) (Nat.le_of_ble_eq_true rfl) (sh_o s33 kk468 (by decide)) (m_goesTo (by omega) s33 ob35 ⟨_, rfl, ?_⟩)
        refine r_if_eq dX11_drawHour_72 rfl (fun c36 => ?_) (fun c36 => ?_)
        · exact r_vret dX11_drawHour_93 rfl ((h31.2 c34).2.1 c36)
        · refine r_aload_n dX11_drawHour_75 rfl ?_
          refine r_iload_n dX11_drawHour_76 rfl ?_
          refine r_invV_i dX11_drawHour_77 kM11_274 (by decide) (Nat.le_of_ble_eq_true rfl) rfl rfl (Nat.le_of_ble_eq_true rfl) (Nat.le_of_ble_eq_true rfl) (sh_o s33 kk468 (by decide)) (Call.mono ((h31.2 c34).2.2 c36) (Nat.le_refl _) ?_)
          rintro _ M38 ⟨z37, rfl, s41, h39⟩
          refine ⟨_, rfl, ?_⟩
          refine r_iconst dX11_drawHour_80 (by decide) ?_
          refine r_icmp_eq dX11_drawHour_81 rfl (fun c42 => ?_) (fun c42 => ?_)
          · exact r_vret dX11_drawHour_93 rfl (h39.1 c42)
          · refine r_aload_n dX11_drawHour_84 rfl ?_
            refine r_iload_n dX11_drawHour_85 rfl ?_
            refine r_iload_n dX11_drawHour_86 rfl ?_
            refine r_iload_n dX11_drawHour_87 rfl ?_
            refine r_iload dX11_drawHour_88 rfl ?_
            refine r_invV_v dX11_drawHour_90 kM11_284 (by decide) (Nat.le_of_ble_eq_true rfl) rfl rfl (Nat.le_of_ble_eq_true rfl) (Nat.le_of_ble_eq_true rfl) (sh_o s41 kk468 (by decide)) (Call.mono (h39.2 c42) (Nat.le_refl _) ?_)
            rintro _ M44 ⟨rfl, s47, h45⟩
            refine ⟨rfl, ?_⟩
            exact r_vret dX11_drawHour_93 rfl h45
  exact K49 _ rfl
theorem vn_years {e : Nat} {M : jM} {Q : Option jV → jM → Prop} {n : Int} {sd : Int} (he : 6 ≤ e) (hS : Shp M)
  (h : (((iv M 468 25) = (0 : Int)) → (Q (some (vI (-1 : Int))) M)) ∧ (¬ ((iv M 468 25) = (0 : Int)) → (Call e mX11_areHours [vR 468, vI n] M (fun r5 M3 => ∃ z2 : Int, r5 = some (vI z2) ∧ Shp M3 ∧ (((z2 ≠ (0 : Int)) → (∀ N8 : jM, N8 = (sl M3 468 34 sd) → Shp N8 → (Run (e + 1) mX11_years 25 [some (vR 468), some (vI n), some (vL sd), none, some (vI (0 : Int))] [] N8 Q))) ∧ (¬ (z2 ≠ (0 : Int)) → (Q (some (vI (-1 : Int))) M3))))))) :
  Call (e + 1) mX11_years [vR 468, vI n, vL sd] M Q := by
  show Run (e + 1) mX11_years 0 [some (vR 468), some (vI n), some (vL sd), none, none] [] M Q
  refine r_aload_n dX11_years_0 rfl ?_
  refine r_get0 dX11_years_1 kF11_287 (sh_o hS kk468 (by decide)) ?_
  refine r_if_eq dX11_years_4 rfl (fun c1 => ?_) (fun c1 => ?_)
  · refine r_iconst dX11_years_15 (by decide) ?_
    exact r_iret dX11_years_16 rfl (h.1 c1)
  · refine r_aload_n dX11_years_7 rfl ?_
    refine r_iload_n dX11_years_8 rfl ?_
    refine r_invV_i dX11_years_9 kM11_378 (by decide) (Nat.le_of_ble_eq_true rfl) rfl rfl (Nat.le_of_ble_eq_true rfl) (Nat.le_of_ble_eq_true rfl) (sh_o hS kk468 (by decide)) (Call.mono (h.2 c1) (Nat.le_refl _) ?_)
    rintro _ M3 ⟨z2, rfl, s6, h4⟩
    refine ⟨_, rfl, ?_⟩
    refine r_if_ne dX11_years_12 rfl (fun c7 => ?_) (fun c7 => ?_)
    · refine r_aload_n dX11_years_17 rfl ?_
      refine r_lload_n dX11_years_18 rfl ?_
      refine r_put1 dX11_years_19 kF11_390 (sh_o s6 kk468 (by decide)) (Or.inl rfl) ?_
      have K11 : ∀ N8 : jM, N8 = (sl M3 468 34 sd) → Run (e + 1) mX11_years 22 [some (vR 468), some (vI n), some (vL sd), none, none] [] N8 Q := by
        intro N8 hN10
        have sN9 : Shp N8 := by rw [hN10]; exact s6
        refine r_iconst dX11_years_22 (by decide) ?_
        refine r_istore (ls2 := [some (vR 468), some (vI n), some (vL sd), none, some (vI (0 : Int))]) dX11_years_23 (Nat.le_of_ble_eq_true rfl) rfl ?_
        exact ((h4.1 c7) N8 hN10 sN9)
      exact K11 _ rfl
    · refine r_iconst dX11_years_15 (by decide) ?_
      exact r_iret dX11_years_16 rfl (h4.2 c7)
theorem vn_years_25 {e : Nat} {M : jM} {Q : Option jV → jM → Prop} {n : Int} {sd : Int} {l4 : Int}  (he : 6 ≤ e) (hS : Shp M)
  (h : ((n ≤ l4) → (Q (some (vI (iv M 486 170))) M)) ∧ (¬ (n ≤ l4) → (Call e mX11_keep [vR 468] M (fun r16 M14 => r16 = none ∧ Shp M14 ∧ (Call e mX11_drawHour [vR 468] M14 (fun r21 M19 => r21 = none ∧ Shp M19 ∧ (Call e mX11_passHour [vR 468] M19 (fun r26 M24 => r26 = none ∧ Shp M24 ∧ (Run (e + 1) mX11_years 25 [some (vR 468), some (vI n), some (vL sd), none, some (vI (w32 (l4 + (1 : Int))))] [] M24 Q))))))))) :
  Run (e + 1) mX11_years 25 [some (vR 468), some (vI n), some (vL sd), none, some (vI l4)] [] M Q := by
  refine r_iload dX11_years_25 rfl ?_
  refine r_iload_n dX11_years_27 rfl ?_
  refine r_icmp_ge dX11_years_28 rfl (fun c12 => ?_) (fun c12 => ?_)
  · refine r_aload_n dX11_years_49 rfl ?_
    refine r_getS (v := 486) dX11_years_50 kF11_61 (sh_o hS kk468 (by decide)) (sh_f hS rr468_28 (by decide)) ?_
    refine r_sipush dX11_years_53 (by decide) ?_
    refine r_ialoadK (k := 170) dX11_years_56 rfl (jro_ix (n := 352) (sh_r hS kk486 (by decide)) (by decide)) ?_
    exact r_iret dX11_years_57 rfl (h.1 c12)
  · refine r_aload_n dX11_years_31 rfl ?_
    refine r_invV_v dX11_years_32 kM11_384 (by decide) (Nat.le_of_ble_eq_true rfl) rfl rfl (Nat.le_of_ble_eq_true rfl) (Nat.le_of_ble_eq_true rfl) (sh_o hS kk468 (by decide)) (Call.mono (h.2 c12) (Nat.le_refl _) ?_)
    rintro _ M14 ⟨rfl, s17, h15⟩
    refine ⟨rfl, ?_⟩
    refine r_aload_n dX11_years_35 rfl ?_
    refine r_invV_v dX11_years_36 kM11_401 (by decide) (Nat.le_of_ble_eq_true rfl) rfl rfl (Nat.le_of_ble_eq_true rfl) (Nat.le_of_ble_eq_true rfl) (sh_o s17 kk468 (by decide)) (Call.mono h15 (Nat.le_refl _) ?_)
    rintro _ M19 ⟨rfl, s22, h20⟩
    refine ⟨rfl, ?_⟩
    refine r_aload_n dX11_years_39 rfl ?_
    refine r_invV_v dX11_years_40 kM11_387 (by decide) (Nat.le_of_ble_eq_true rfl) rfl rfl (Nat.le_of_ble_eq_true rfl) (Nat.le_of_ble_eq_true rfl) (sh_o s22 kk468 (by decide)) (Call.mono h20 (Nat.le_refl _) ?_)
    rintro _ M24 ⟨rfl, s27, h25⟩
    refine ⟨rfl, ?_⟩
    refine r_iinc (ls2 := [some (vR 468), some (vI n), some (vL sd), none, some (vI (w32 (l4 + (1 : Int))))]) dX11_years_43 rfl rfl ?_
    refine r_goto (tgt := 25) dX11_years_46 rfl ?_
    exact h25
theorem vn_status {e : Nat} {M : jM} {Q : Option jV → jM → Prop} {w : Int} (he : 6 ≤ e) (hS : Shp M)
  (h : (((fIn w (0 : Int) (4 : Int)) = (0 : Int)) → (Q (some (vI (-1 : Int))) M)) ∧ (¬ ((fIn w (0 : Int) (4 : Int)) = (0 : Int)) → ((0 ≤ w ∧ w < 5) ∧ (Q (some (vI (iv M 487 (w).toNat))) M)))) :
  Call (e + 1) mX11_status [vR 468, vI w] M Q := by
  show Run (e + 1) mX11_status 0 [some (vR 468), some (vI w)] [] M Q
  refine r_iload_n dX11_status_0 rfl ?_
  refine r_iconst dX11_status_1 (by decide) ?_
  refine r_iconst dX11_status_2 (by decide) ?_
  refine r_invS_i dX11_status_3 (by decide) kXn11_224 kM11_224 (by decide) (Nat.le_of_ble_eq_true rfl) rfl rfl (Nat.le_of_ble_eq_true rfl) (Nat.le_of_ble_eq_true rfl) (m_in (by omega) hS ⟨_, rfl, ?_⟩)
  refine r_if_eq dX11_status_6 rfl (fun c1 => ?_) (fun c1 => ?_)
  · refine r_iconst dX11_status_18 (by decide) ?_
    exact r_iret dX11_status_19 rfl (h.1 c1)
  · refine r_aload_n dX11_status_9 rfl ?_
    refine r_getS (v := 487) dX11_status_10 kF11_64 (sh_o hS kk468 (by decide)) (sh_f hS rr468_29 (by decide)) ?_
    refine r_iload_n dX11_status_13 rfl ?_
    have ob2 := (h.2 c1).1
    refine r_iaload dX11_status_14 (jro_ix (sh_r hS kk487 (by decide)) ob2) ?_
    refine r_goto (tgt := 19) dX11_status_15 rfl ?_
    exact r_iret dX11_status_19 rfl (h.2 c1).2
theorem vn_undo {e : Nat} {M : jM} {Q : Option jV → jM → Prop}  (he : 6 ≤ e) (hS : Shp M)
  (h : (((iv M 468 33) ≠ (0 : Int)) → (∀ N2 : jM, N2 = (si M 468 33 (w32 ((iv M 468 33) - (1 : Int)))) → Shp N2 → (Run (e + 1) mX11_undo 21 [some (vR 468), some (vI (0 : Int))] [] N2 Q))) ∧ (¬ ((iv M 468 33) ≠ (0 : Int)) → (Q (some (vI (-1 : Int))) M))) :
  Call (e + 1) mX11_undo [vR 468] M Q := by
  show Run (e + 1) mX11_undo 0 [some (vR 468), none] [] M Q
  refine r_aload_n dX11_undo_0 rfl ?_
  refine r_get0 dX11_undo_1 kF11_296 (sh_o hS kk468 (by decide)) ?_
  refine r_if_ne dX11_undo_4 rfl (fun c1 => ?_) (fun c1 => ?_)
  · refine r_aload_n dX11_undo_9 rfl ?_
    refine r_dupR dX11_undo_10 ?_
    refine r_get0 dX11_undo_11 kF11_296 (sh_o hS kk468 (by decide)) ?_
    refine r_iconst dX11_undo_14 (by decide) ?_
    refine r_isub dX11_undo_15 ?_
    refine r_put0 dX11_undo_16 kF11_296 (sh_o hS kk468 (by decide)) (Or.inl rfl) ?_
    have K5 : ∀ N2 : jM, N2 = (si M 468 33 (w32 ((iv M 468 33) - (1 : Int)))) → Run (e + 1) mX11_undo 19 [some (vR 468), none] [] N2 Q := by
      intro N2 hN4
      have sN3 : Shp N2 := by rw [hN4]; exact hS
      refine r_iconst dX11_undo_19 (by decide) ?_
      refine r_istore_n (ls2 := [some (vR 468), some (vI (0 : Int))]) dX11_undo_20 (Nat.le_of_ble_eq_true rfl) rfl ?_
      exact ((h.1 c1) N2 hN4 sN3)
    exact K5 _ rfl
  · refine r_iconst dX11_undo_7 (by decide) ?_
    exact r_iret dX11_undo_8 rfl (h.2 c1)
theorem vn_undo_21 {e : Nat} {M : jM} {Q : Option jV → jM → Prop} {l1 : Int}  (he : 6 ≤ e) (hS : Shp M)
  (h : (((352 : Int) ≤ l1) → (Q (some (vI (iv M 468 33))) M)) ∧ (¬ ((352 : Int) ≤ l1) → ((0 ≤ (w32 ((w32 ((352 : Int) * (iv M 468 33))) + l1)) ∧ (w32 ((w32 ((352 : Int) * (iv M 468 33))) + l1)) < 14080) ∧ ((0 ≤ l1 ∧ l1 < 352) ∧ (∀ N9 : jM, N9 = (si M 486 (l1).toNat (iv M 488 (w32 ((w32 ((352 : Int) * (iv M 468 33))) + l1)).toNat)) → Shp N9 → (Run (e + 1) mX11_undo 21 [some (vR 468), some (vI (w32 (l1 + (1 : Int))))] [] N9 Q)))))) :
  Run (e + 1) mX11_undo 21 [some (vR 468), some (vI l1)] [] M Q := by
  refine r_iload_n dX11_undo_21 rfl ?_
  refine r_sipush dX11_undo_22 (by decide) ?_
  refine r_icmp_ge dX11_undo_25 rfl (fun c6 => ?_) (fun c6 => ?_)
  · refine r_aload_n dX11_undo_55 rfl ?_
    refine r_get0 dX11_undo_56 kF11_296 (sh_o hS kk468 (by decide)) ?_
    exact r_iret dX11_undo_59 rfl (h.1 c6)
  · refine r_aload_n dX11_undo_28 rfl ?_
    refine r_getS (v := 486) dX11_undo_29 kF11_61 (sh_o hS kk468 (by decide)) (sh_f hS rr468_28 (by decide)) ?_
    refine r_iload_n dX11_undo_32 rfl ?_
    refine r_aload_n dX11_undo_33 rfl ?_
    refine r_getS (v := 488) dX11_undo_34 kF11_74 (sh_o hS kk468 (by decide)) (sh_f hS rr468_32 (by decide)) ?_
    refine r_sipush dX11_undo_37 (by decide) ?_
    refine r_aload_n dX11_undo_40 rfl ?_
    refine r_get0 dX11_undo_41 kF11_296 (sh_o hS kk468 (by decide)) ?_
    refine r_imul dX11_undo_44 ?_
    refine r_iload_n dX11_undo_45 rfl ?_
    refine r_iadd dX11_undo_46 ?_
    have ob7 := (h.2 c6).1
    refine r_iaload dX11_undo_47 (jro_ix (sh_r hS kk488 (by decide)) ob7) ?_
    have ob8 := (h.2 c6).2.1
    refine r_iastore dX11_undo_48 ⟨jro_ix (sh_r hS kk486 (by decide)) ob8, (by decide)⟩ ?_
    have K12 : ∀ N9 : jM, N9 = (si M 486 (l1).toNat (iv M 488 (w32 ((w32 ((352 : Int) * (iv M 468 33))) + l1)).toNat)) → Run (e + 1) mX11_undo 49 [some (vR 468), some (vI l1)] [] N9 Q := by
      intro N9 hN11
      have sN10 : Shp N9 := by rw [hN11]; exact hS
      refine r_iinc (ls2 := [some (vR 468), some (vI (w32 (l1 + (1 : Int))))]) dX11_undo_49 rfl rfl ?_
      refine r_goto (tgt := 21) dX11_undo_52 rfl ?_
      exact ((h.2 c6).2.2 N9 hN11 sN10)
    exact K12 _ rfl
theorem vn_log {e : Nat} {M : jM} {Q : Option jV → jM → Prop} {i : Int} {w : Int} (he : 6 ≤ e) (hS : Shp M)
  (h : (((fIn i (0 : Int) (w32 ((iv M 486 171) - (1 : Int)))) = (0 : Int)) → (Q (some (vI (-1 : Int))) M)) ∧ (¬ ((fIn i (0 : Int) (w32 ((iv M 486 171) - (1 : Int)))) = (0 : Int)) → ((((fIn w (0 : Int) (2 : Int)) = (0 : Int)) → (Q (some (vI (-1 : Int))) M)) ∧ (¬ ((fIn w (0 : Int) (2 : Int)) = (0 : Int)) → (∀ v3 : Int, v3 = (w32 ((172 : Int) + (w32 ((3 : Int) * (w32 ((w32 ((iv M 486 171) - (1 : Int))) - i)))))) → ((0 ≤ (w32 (v3 + w)) ∧ (w32 (v3 + w)) < 352) ∧ (Q (some (vI (iv M 486 (w32 (v3 + w)).toNat))) M))))))) :
  Call (e + 1) mX11_log [vR 468, vI i, vI w] M Q := by
  show Run (e + 1) mX11_log 0 [some (vR 468), some (vI i), some (vI w)] [] M Q
  refine r_iload_n dX11_log_0 rfl ?_
  refine r_iconst dX11_log_1 (by decide) ?_
  refine r_aload_n dX11_log_2 rfl ?_
  refine r_getS (v := 486) dX11_log_3 kF11_61 (sh_o hS kk468 (by decide)) (sh_f hS rr468_28 (by decide)) ?_
  refine r_sipush dX11_log_6 (by decide) ?_
  refine r_ialoadK (k := 171) dX11_log_9 rfl (jro_ix (n := 352) (sh_r hS kk486 (by decide)) (by decide)) ?_
  refine r_iconst dX11_log_10 (by decide) ?_
  refine r_isub dX11_log_11 ?_
  refine r_invS_i dX11_log_12 (by decide) kXn11_224 kM11_224 (by decide) (Nat.le_of_ble_eq_true rfl) rfl rfl (Nat.le_of_ble_eq_true rfl) (Nat.le_of_ble_eq_true rfl) (m_in (by omega) hS ⟨_, rfl, ?_⟩)
  refine r_if_eq dX11_log_15 rfl (fun c1 => ?_) (fun c1 => ?_)
  · refine r_iconst dX11_log_55 (by decide) ?_
    exact r_iret dX11_log_56 rfl (h.1 c1)
  · refine r_iload_n dX11_log_18 rfl ?_
    refine r_iconst dX11_log_19 (by decide) ?_
    refine r_iconst dX11_log_20 (by decide) ?_
    refine r_invS_i dX11_log_21 (by decide) kXn11_224 kM11_224 (by decide) (Nat.le_of_ble_eq_true rfl) rfl rfl (Nat.le_of_ble_eq_true rfl) (Nat.le_of_ble_eq_true rfl) (m_in (by omega) hS ⟨_, rfl, ?_⟩)
    refine r_if_eq dX11_log_24 rfl (fun c2 => ?_) (fun c2 => ?_)
    · refine r_iconst dX11_log_55 (by decide) ?_
      exact r_iret dX11_log_56 rfl ((h.2 c1).1 c2)
    · refine r_aload_n dX11_log_27 rfl ?_
      refine r_getS (v := 486) dX11_log_28 kF11_61 (sh_o hS kk468 (by decide)) (sh_f hS rr468_28 (by decide)) ?_
      refine r_sipush dX11_log_31 (by decide) ?_
      refine r_iconst dX11_log_34 (by decide) ?_
      refine r_aload_n dX11_log_35 rfl ?_
      refine r_getS (v := 486) dX11_log_36 kF11_61 (sh_o hS kk468 (by decide)) (sh_f hS rr468_28 (by decide)) ?_
      refine r_sipush dX11_log_39 (by decide) ?_
      refine r_ialoadK (k := 171) dX11_log_42 rfl (jro_ix (n := 352) (sh_r hS kk486 (by decide)) (by decide)) ?_
      refine r_iconst dX11_log_43 (by decide) ?_
      refine r_isub dX11_log_44 ?_
      refine r_iload_n dX11_log_45 rfl ?_
      refine r_isub dX11_log_46 ?_
      refine r_imul dX11_log_47 ?_
      refine r_iadd dX11_log_48 ?_
      have K6 : ∀ v3 : Int, v3 = (w32 ((172 : Int) + (w32 ((3 : Int) * (w32 ((w32 ((iv M 486 171) - (1 : Int))) - i)))))) → Run (e + 1) mX11_log 49 [some (vR 468), some (vI i), some (vI w)] [vI v3, vR 486] M Q := by
        intro v3 hv5
        refine r_iload_n dX11_log_49 rfl ?_
        refine r_iadd dX11_log_50 ?_
        have ob4 := (((h.2 c1).2 c2) v3 hv5).1
        refine r_iaload dX11_log_51 (jro_ix (sh_r hS kk486 (by decide)) ob4) ?_
        refine r_goto (tgt := 56) dX11_log_52 rfl ?_
        exact r_iret dX11_log_56 rfl (((h.2 c1).2 c2) v3 hv5).2
      exact K6 _ rfl
theorem vn_behind {e : Nat} {M : jM} {Q : Option jV → jM → Prop} {p : Int} {n : Int} (he : 6 ≤ e) (hS : Shp M)
  (h : (((fIn p 0 (w32 (iv M 468 25 - 1))) = (0 : Int)) → (Q (some (vI (-1 : Int))) M)) ∧ (¬ ((fIn p 0 (w32 (iv M 468 25 - 1))) = (0 : Int)) → ((((fIn n (0 : Int) (60 : Int)) ≠ (0 : Int)) → (Call e mX11_putAside [vR 468, vI (0 : Int)] M (fun r6 M4 => r6 = none ∧ Shp M4 ∧ (Run (e + 1) mX11_behind 27 [some (vR 468), some (vI p), some (vI n), some (vI (0 : Int))] [] M4 Q)))) ∧ (¬ ((fIn n (0 : Int) (60 : Int)) ≠ (0 : Int)) → (Q (some (vI (-1 : Int))) M))))) :
  Call (e + 1) mX11_behind [vR 468, vI p, vI n] M Q := by
  show Run (e + 1) mX11_behind 0 [some (vR 468), some (vI p), some (vI n), none] [] M Q
  refine r_aload_n dX11_behind_0 rfl ?_
  refine r_iload_n dX11_behind_1 rfl ?_
  refine r_invV_i dX11_behind_2 kM11_309 (by decide) (Nat.le_of_ble_eq_true rfl) rfl rfl (Nat.le_of_ble_eq_true rfl) (Nat.le_of_ble_eq_true rfl) (sh_o hS kk468 (by decide)) (m_isPerson (by omega) hS ⟨_, rfl, ?_⟩)
  refine r_if_eq dX11_behind_5 rfl (fun c1 => ?_) (fun c1 => ?_)
  · refine r_iconst dX11_behind_18 (by decide) ?_
    exact r_iret dX11_behind_19 rfl (h.1 c1)
  · refine r_iload_n dX11_behind_8 rfl ?_
    refine r_iconst dX11_behind_9 (by decide) ?_
    refine r_bipush dX11_behind_10 (by decide) ?_
    refine r_invS_i dX11_behind_12 (by decide) kXn11_224 kM11_224 (by decide) (Nat.le_of_ble_eq_true rfl) rfl rfl (Nat.le_of_ble_eq_true rfl) (Nat.le_of_ble_eq_true rfl) (m_in (by omega) hS ⟨_, rfl, ?_⟩)
    refine r_if_ne dX11_behind_15 rfl (fun c2 => ?_) (fun c2 => ?_)
    · refine r_aload_n dX11_behind_20 rfl ?_
      refine r_iconst dX11_behind_21 (by decide) ?_
      refine r_invV_v dX11_behind_22 kM11_404 (by decide) (Nat.le_of_ble_eq_true rfl) rfl rfl (Nat.le_of_ble_eq_true rfl) (Nat.le_of_ble_eq_true rfl) (sh_o hS kk468 (by decide)) (Call.mono ((h.2 c1).1 c2) (Nat.le_refl _) ?_)
      rintro _ M4 ⟨rfl, s7, h5⟩
      refine ⟨rfl, ?_⟩
      refine r_iconst dX11_behind_25 (by decide) ?_
      refine r_istore_n (ls2 := [some (vR 468), some (vI p), some (vI n), some (vI (0 : Int))]) dX11_behind_26 (Nat.le_of_ble_eq_true rfl) rfl ?_
      exact h5
    · refine r_iconst dX11_behind_18 (by decide) ?_
      exact r_iret dX11_behind_19 rfl ((h.2 c1).2 c2)
theorem vn_behind_27 {e : Nat} {M : jM} {Q : Option jV → jM → Prop} {p : Int} {n : Int} {l3 : Int}  (he : 6 ≤ e) (hS : Shp M)
  (h : ((n ≤ l3) → (Call e mX11_weightOf [vR 468, vI p] M (fun r12 M10 => ∃ z9 : Int, r12 = some (vL z9) ∧ Shp M10 ∧ (Call e mX11_takeBack [vR 468, vI (0 : Int)] M10 (fun r17 M15 => r17 = none ∧ Shp M15 ∧ (Q (some (vI (fTm z9))) M15)))))) ∧ (¬ (n ≤ l3) → (Call e mX11_live [vR 468] M (fun r22 M20 => r22 = none ∧ Shp M20 ∧ (Run (e + 1) mX11_behind 27 [some (vR 468), some (vI p), some (vI n), some (vI (w32 (l3 + (1 : Int))))] [] M20 Q))))) :
  Run (e + 1) mX11_behind 27 [some (vR 468), some (vI p), some (vI n), some (vI l3)] [] M Q := by
  refine r_iload_n dX11_behind_27 rfl ?_
  refine r_iload_n dX11_behind_28 rfl ?_
  refine r_icmp_ge dX11_behind_29 rfl (fun c8 => ?_) (fun c8 => ?_)
  · refine r_aload_n dX11_behind_42 rfl ?_
    refine r_iload_n dX11_behind_43 rfl ?_
    refine r_invV_l dX11_behind_44 kM11_340 (by decide) (Nat.le_of_ble_eq_true rfl) rfl rfl (Nat.le_of_ble_eq_true rfl) (Nat.le_of_ble_eq_true rfl) (sh_o hS kk468 (by decide)) (Call.mono (h.1 c8) (Nat.le_refl _) ?_)
    rintro _ M10 ⟨z9, rfl, s13, h11⟩
    refine ⟨_, rfl, ?_⟩
    refine r_invS_i dX11_behind_47 (by decide) kXn11_366 kM11_366 (by decide) (Nat.le_of_ble_eq_true rfl) rfl rfl (Nat.le_of_ble_eq_true rfl) (Nat.le_of_ble_eq_true rfl) (m_asTold (by omega) s13 ⟨_, rfl, ?_⟩)
    refine r_istore_n (ls2 := [some (vR 468), some (vI p), some (vI n), some (vI (fTm z9))]) dX11_behind_50 (Nat.le_of_ble_eq_true rfl) rfl ?_
    refine r_aload_n dX11_behind_51 rfl ?_
    refine r_iconst dX11_behind_52 (by decide) ?_
    refine r_invV_v dX11_behind_53 kM11_407 (by decide) (Nat.le_of_ble_eq_true rfl) rfl rfl (Nat.le_of_ble_eq_true rfl) (Nat.le_of_ble_eq_true rfl) (sh_o s13 kk468 (by decide)) (Call.mono h11 (Nat.le_refl _) ?_)
    rintro _ M15 ⟨rfl, s18, h16⟩
    refine ⟨rfl, ?_⟩
    refine r_iload_n dX11_behind_56 rfl ?_
    exact r_iret dX11_behind_57 rfl h16
  · refine r_aload_n dX11_behind_32 rfl ?_
    refine r_invV_v dX11_behind_33 kM11_354 (by decide) (Nat.le_of_ble_eq_true rfl) rfl rfl (Nat.le_of_ble_eq_true rfl) (Nat.le_of_ble_eq_true rfl) (sh_o hS kk468 (by decide)) (Call.mono (h.2 c8) (Nat.le_refl _) ?_)
    rintro _ M20 ⟨rfl, s23, h21⟩
    refine ⟨rfl, ?_⟩
    refine r_iinc (ls2 := [some (vR 468), some (vI p), some (vI n), some (vI (w32 (l3 + (1 : Int))))]) dX11_behind_36 rfl rfl ?_
    refine r_goto (tgt := 27) dX11_behind_39 rfl ?_
    exact h21
theorem vn_floatsIn {e : Nat} {M : jM} {Q : Option jV → jM → Prop} {p : Int} (he : 6 ≤ e) (hS : Shp M)
  (h : (((fIn p 0 (w32 (iv M 468 25 - 1))) ≠ (0 : Int)) → (Call e mX11_putAside [vR 468, vI (0 : Int)] M (fun r5 M3 => r5 = none ∧ Shp M3 ∧ (Run (e + 1) mX11_floatsIn 17 [some (vR 468), some (vI p), some (vI (0 : Int)), none] [] M3 Q)))) ∧ (¬ ((fIn p 0 (w32 (iv M 468 25 - 1))) ≠ (0 : Int)) → (Q (some (vI (-1 : Int))) M))) :
  Call (e + 1) mX11_floatsIn [vR 468, vI p] M Q := by
  show Run (e + 1) mX11_floatsIn 0 [some (vR 468), some (vI p), none, none] [] M Q
  refine r_aload_n dX11_floatsIn_0 rfl ?_
  refine r_iload_n dX11_floatsIn_1 rfl ?_
  refine r_invV_i dX11_floatsIn_2 kM11_309 (by decide) (Nat.le_of_ble_eq_true rfl) rfl rfl (Nat.le_of_ble_eq_true rfl) (Nat.le_of_ble_eq_true rfl) (sh_o hS kk468 (by decide)) (m_isPerson (by omega) hS ⟨_, rfl, ?_⟩)
  refine r_if_ne dX11_floatsIn_5 rfl (fun c1 => ?_) (fun c1 => ?_)
  · refine r_aload_n dX11_floatsIn_10 rfl ?_
    refine r_iconst dX11_floatsIn_11 (by decide) ?_
    refine r_invV_v dX11_floatsIn_12 kM11_404 (by decide) (Nat.le_of_ble_eq_true rfl) rfl rfl (Nat.le_of_ble_eq_true rfl) (Nat.le_of_ble_eq_true rfl) (sh_o hS kk468 (by decide)) (Call.mono (h.1 c1) (Nat.le_refl _) ?_)
    rintro _ M3 ⟨rfl, s6, h4⟩
    refine ⟨rfl, ?_⟩
    refine r_iconst dX11_floatsIn_15 (by decide) ?_
    refine r_istore_n (ls2 := [some (vR 468), some (vI p), some (vI (0 : Int)), none]) dX11_floatsIn_16 (Nat.le_of_ble_eq_true rfl) rfl ?_
    exact h4
  · refine r_iconst dX11_floatsIn_8 (by decide) ?_
    exact r_iret dX11_floatsIn_9 rfl (h.2 c1)
theorem vn_floatsIn_17 {e : Nat} {M : jM} {Q : Option jV → jM → Prop} {p : Int} {l2 : Int} {l3 : Option jV}  (he : 6 ≤ e) (hS : Shp M)
  (h : (((99 : Int) ≤ l2) → (Call e mX11_doesFloat [vR 468, vI p] M (fun r11 M9 => ∃ z8 : Int, r11 = some (vI z8) ∧ Shp M9 ∧ (Call e mX11_takeBack [vR 468, vI (0 : Int)] M9 (fun r16 M14 => r16 = none ∧ Shp M14 ∧ (Q (some (vI (if z8 = (0 : Int) then (-1 : Int) else l2))) M14)))))) ∧ (¬ ((99 : Int) ≤ l2) → (Call e mX11_doesFloat [vR 468, vI p] M (fun r21 M19 => ∃ z18 : Int, r21 = some (vI z18) ∧ Shp M19 ∧ (((z18 ≠ (0 : Int)) → (Call e mX11_doesFloat [vR 468, vI p] M19 (fun r27 M25 => ∃ z24 : Int, r27 = some (vI z24) ∧ Shp M25 ∧ (Call e mX11_takeBack [vR 468, vI (0 : Int)] M25 (fun r32 M30 => r32 = none ∧ Shp M30 ∧ (Q (some (vI (if z24 = (0 : Int) then (-1 : Int) else l2))) M30)))))) ∧ (¬ (z18 ≠ (0 : Int)) → (Call e mX11_live [vR 468] M19 (fun r37 M35 => r37 = none ∧ Shp M35 ∧ (Run (e + 1) mX11_floatsIn 17 [some (vR 468), some (vI p), some (vI (w32 (l2 + (1 : Int)))), l3] [] M35 Q))))))))) :
  Run (e + 1) mX11_floatsIn 17 [some (vR 468), some (vI p), some (vI l2), l3] [] M Q := by
  refine r_iload_n dX11_floatsIn_17 rfl ?_
  refine r_bipush dX11_floatsIn_18 (by decide) ?_
  refine r_icmp_ge dX11_floatsIn_20 rfl (fun c7 => ?_) (fun c7 => ?_)
  · refine r_aload_n dX11_floatsIn_41 rfl ?_
    refine r_iload_n dX11_floatsIn_42 rfl ?_
    refine r_invV_i dX11_floatsIn_43 kM11_346 (by decide) (Nat.le_of_ble_eq_true rfl) rfl rfl (Nat.le_of_ble_eq_true rfl) (Nat.le_of_ble_eq_true rfl) (sh_o hS kk468 (by decide)) (Call.mono (h.1 c7) (Nat.le_refl _) ?_)
    rintro _ M9 ⟨z8, rfl, s12, h10⟩
    refine ⟨_, rfl, ?_⟩
    refine r_istore_n (ls2 := [some (vR 468), some (vI p), some (vI l2), some (vI z8)]) dX11_floatsIn_46 (Nat.le_of_ble_eq_true rfl) rfl ?_
    refine r_aload_n dX11_floatsIn_47 rfl ?_
    refine r_iconst dX11_floatsIn_48 (by decide) ?_
    refine r_invV_v dX11_floatsIn_49 kM11_407 (by decide) (Nat.le_of_ble_eq_true rfl) rfl rfl (Nat.le_of_ble_eq_true rfl) (Nat.le_of_ble_eq_true rfl) (sh_o s12 kk468 (by decide)) (Call.mono h10 (Nat.le_refl _) ?_)
    rintro _ M14 ⟨rfl, s17, h15⟩
    refine ⟨rfl, ?_⟩
    refine r_iload_n dX11_floatsIn_52 rfl ?_
    have K39 : Run (e + 1) mX11_floatsIn 61 [some (vR 468), some (vI p), some (vI l2), some (vI z8)] [vI (if z8 = (0 : Int) then (-1 : Int) else l2)] M14 Q := by
      exact r_iret dX11_floatsIn_61 rfl h15
    refine r_if_eq dX11_floatsIn_53 rfl (fun q40 => ?_) (fun q40 => ?_)
    · rw [if_pos q40] at K39
      refine r_iconst dX11_floatsIn_60 (by decide) ?_
      exact K39
    · rw [if_neg q40] at K39
      refine r_iload_n dX11_floatsIn_56 rfl ?_
      refine r_goto (tgt := 61) dX11_floatsIn_57 rfl ?_
      exact K39
  · refine r_aload_n dX11_floatsIn_23 rfl ?_
    refine r_iload_n dX11_floatsIn_24 rfl ?_
    refine r_invV_i dX11_floatsIn_25 kM11_346 (by decide) (Nat.le_of_ble_eq_true rfl) rfl rfl (Nat.le_of_ble_eq_true rfl) (Nat.le_of_ble_eq_true rfl) (sh_o hS kk468 (by decide)) (Call.mono (h.2 c7) (Nat.le_refl _) ?_)
    rintro _ M19 ⟨z18, rfl, s22, h20⟩
    refine ⟨_, rfl, ?_⟩
    refine r_if_ne dX11_floatsIn_28 rfl (fun c23 => ?_) (fun c23 => ?_)
    · refine r_aload_n dX11_floatsIn_41 rfl ?_
      refine r_iload_n dX11_floatsIn_42 rfl ?_
      refine r_invV_i dX11_floatsIn_43 kM11_346 (by decide) (Nat.le_of_ble_eq_true rfl) rfl rfl (Nat.le_of_ble_eq_true rfl) (Nat.le_of_ble_eq_true rfl) (sh_o s22 kk468 (by decide)) (Call.mono (h20.1 c23) (Nat.le_refl _) ?_)
      rintro _ M25 ⟨z24, rfl, s28, h26⟩
      refine ⟨_, rfl, ?_⟩
      refine r_istore_n (ls2 := [some (vR 468), some (vI p), some (vI l2), some (vI z24)]) dX11_floatsIn_46 (Nat.le_of_ble_eq_true rfl) rfl ?_
      refine r_aload_n dX11_floatsIn_47 rfl ?_
      refine r_iconst dX11_floatsIn_48 (by decide) ?_
      refine r_invV_v dX11_floatsIn_49 kM11_407 (by decide) (Nat.le_of_ble_eq_true rfl) rfl rfl (Nat.le_of_ble_eq_true rfl) (Nat.le_of_ble_eq_true rfl) (sh_o s28 kk468 (by decide)) (Call.mono h26 (Nat.le_refl _) ?_)
      rintro _ M30 ⟨rfl, s33, h31⟩
      refine ⟨rfl, ?_⟩
      refine r_iload_n dX11_floatsIn_52 rfl ?_
      have K42 : Run (e + 1) mX11_floatsIn 61 [some (vR 468), some (vI p), some (vI l2), some (vI z24)] [vI (if z24 = (0 : Int) then (-1 : Int) else l2)] M30 Q := by
        exact r_iret dX11_floatsIn_61 rfl h31
      refine r_if_eq dX11_floatsIn_53 rfl (fun q43 => ?_) (fun q43 => ?_)
      · rw [if_pos q43] at K42
        refine r_iconst dX11_floatsIn_60 (by decide) ?_
        exact K42
      · rw [if_neg q43] at K42
        refine r_iload_n dX11_floatsIn_56 rfl ?_
        refine r_goto (tgt := 61) dX11_floatsIn_57 rfl ?_
        exact K42
    · refine r_aload_n dX11_floatsIn_31 rfl ?_
      refine r_invV_v dX11_floatsIn_32 kM11_354 (by decide) (Nat.le_of_ble_eq_true rfl) rfl rfl (Nat.le_of_ble_eq_true rfl) (Nat.le_of_ble_eq_true rfl) (sh_o s22 kk468 (by decide)) (Call.mono (h20.2 c23) (Nat.le_refl _) ?_)
      rintro _ M35 ⟨rfl, s38, h36⟩
      refine ⟨rfl, ?_⟩
      refine r_iinc (ls2 := [some (vR 468), some (vI p), some (vI (w32 (l2 + (1 : Int)))), l3]) dX11_floatsIn_35 rfl rfl ?_
      refine r_goto (tgt := 17) dX11_floatsIn_38 rfl ?_
      exact h36
theorem vn_load {e : Nat} {M : jM} {Q : Option jV → jM → Prop} {sm : Int} (he : 6 ≤ e) (hS : Shp M)
  (h : (((iv M 468 25) = (0 : Int)) → (Q (some (vI (-1 : Int))) M)) ∧ (¬ ((iv M 468 25) = (0 : Int)) → (((sm < (0 : Int)) → (Q (some (vI (-1 : Int))) M)) ∧ (¬ (sm < (0 : Int)) → (((sm < (jshl (1 : Int) (iv M 468 25))) → (Call e mX11_layWeights [vR 468] M (fun r7 M5 => r7 = none ∧ Shp M5 ∧ (Call e mX11_loadOf [vR 468, vI sm] M5 (fun r12 M10 => ∃ z9 : Int, r12 = some (vL z9) ∧ Shp M10 ∧ (Q (some (vI (fTm z9))) M10)))))) ∧ (¬ (sm < (jshl (1 : Int) (iv M 468 25))) → (Q (some (vI (-1 : Int))) M))))))) :
  Call (e + 1) mX11_load [vR 468, vI sm] M Q := by
  show Run (e + 1) mX11_load 0 [some (vR 468), some (vI sm)] [] M Q
  refine r_aload_n dX11_load_0 rfl ?_
  refine r_get0 dX11_load_1 kF11_287 (sh_o hS kk468 (by decide)) ?_
  refine r_if_eq dX11_load_4 rfl (fun c1 => ?_) (fun c1 => ?_)
  · refine r_iconst dX11_load_21 (by decide) ?_
    exact r_iret dX11_load_22 rfl (h.1 c1)
  · refine r_iload_n dX11_load_7 rfl ?_
    refine r_if_lt dX11_load_8 rfl (fun c2 => ?_) (fun c2 => ?_)
    · refine r_iconst dX11_load_21 (by decide) ?_
      exact r_iret dX11_load_22 rfl ((h.2 c1).1 c2)
    · refine r_iload_n dX11_load_11 rfl ?_
      refine r_iconst dX11_load_12 (by decide) ?_
      refine r_aload_n dX11_load_13 rfl ?_
      refine r_get0 dX11_load_14 kF11_287 (sh_o hS kk468 (by decide)) ?_
      refine r_ishl dX11_load_17 ?_
      refine r_icmp_lt dX11_load_18 rfl (fun c3 => ?_) (fun c3 => ?_)
      · refine r_aload_n dX11_load_23 rfl ?_
        refine r_invV_v dX11_load_24 kM11_413 (by decide) (Nat.le_of_ble_eq_true rfl) rfl rfl (Nat.le_of_ble_eq_true rfl) (Nat.le_of_ble_eq_true rfl) (sh_o hS kk468 (by decide)) (Call.mono (((h.2 c1).2 c2).1 c3) (Nat.le_refl _) ?_)
        rintro _ M5 ⟨rfl, s8, h6⟩
        refine ⟨rfl, ?_⟩
        refine r_aload_n dX11_load_27 rfl ?_
        refine r_iload_n dX11_load_28 rfl ?_
        refine r_invV_l dX11_load_29 kM11_410 (by decide) (Nat.le_of_ble_eq_true rfl) rfl rfl (Nat.le_of_ble_eq_true rfl) (Nat.le_of_ble_eq_true rfl) (sh_o s8 kk468 (by decide)) (Call.mono h6 (Nat.le_refl _) ?_)
        rintro _ M10 ⟨z9, rfl, s13, h11⟩
        refine ⟨_, rfl, ?_⟩
        refine r_invS_i dX11_load_32 (by decide) kXn11_366 kM11_366 (by decide) (Nat.le_of_ble_eq_true rfl) rfl rfl (Nat.le_of_ble_eq_true rfl) (Nat.le_of_ble_eq_true rfl) (m_asTold (by omega) s13 ⟨_, rfl, ?_⟩)
        exact r_iret dX11_load_35 rfl h11
      · refine r_iconst dX11_load_21 (by decide) ?_
        exact r_iret dX11_load_22 rfl (((h.2 c1).2 c2).2 c3)
theorem vn_together {e : Nat} {M : jM} {Q : Option jV → jM → Prop}  (he : 6 ≤ e) (hS : Shp M)
  (h : (((iv M 468 25) ≠ (0 : Int)) → (Call e mX11_layWeights [vR 468] M (fun r5 M3 => r5 = none ∧ Shp M3 ∧ (Run (e + 1) mX11_together 17 [some (vR 468), some (vI (0 : Int)), some (vI (1 : Int))] [] M3 Q)))) ∧ (¬ ((iv M 468 25) ≠ (0 : Int)) → (Q (some (vI (-1 : Int))) M))) :
  Call (e + 1) mX11_together [vR 468] M Q := by
  show Run (e + 1) mX11_together 0 [some (vR 468), none, none] [] M Q
  refine r_aload_n dX11_together_0 rfl ?_
  refine r_get0 dX11_together_1 kF11_287 (sh_o hS kk468 (by decide)) ?_
  refine r_if_ne dX11_together_4 rfl (fun c1 => ?_) (fun c1 => ?_)
  · refine r_aload_n dX11_together_9 rfl ?_
    refine r_invV_v dX11_together_10 kM11_413 (by decide) (Nat.le_of_ble_eq_true rfl) rfl rfl (Nat.le_of_ble_eq_true rfl) (Nat.le_of_ble_eq_true rfl) (sh_o hS kk468 (by decide)) (Call.mono (h.1 c1) (Nat.le_refl _) ?_)
    rintro _ M3 ⟨rfl, s6, h4⟩
    refine ⟨rfl, ?_⟩
    refine r_iconst dX11_together_13 (by decide) ?_
    refine r_istore_n (ls2 := [some (vR 468), some (vI (0 : Int)), none]) dX11_together_14 (Nat.le_of_ble_eq_true rfl) rfl ?_
    refine r_iconst dX11_together_15 (by decide) ?_
    refine r_istore_n (ls2 := [some (vR 468), some (vI (0 : Int)), some (vI (1 : Int))]) dX11_together_16 (Nat.le_of_ble_eq_true rfl) rfl ?_
    exact h4
  · refine r_iconst dX11_together_7 (by decide) ?_
    exact r_iret dX11_together_8 rfl (h.2 c1)
theorem vn_together_17 {e : Nat} {M : jM} {Q : Option jV → jM → Prop} {l1 : Int} {l2 : Int}  (he : 6 ≤ e) (hS : Shp M)
  (h : (((jshl (1 : Int) (iv M 468 25)) ≤ l2) → (Q (some (vI l1)) M)) ∧ (¬ ((jshl (1 : Int) (iv M 468 25)) ≤ l2) → (Call e mJ6_bitCount_0f7a4 [vI l2] M (fun r11 M9 => ∃ z8 : Int, r11 = some (vI z8) ∧ Shp M9 ∧ (Call e mJ6_bitCount_0f7a4 [vI l1] M9 (fun r16 M14 => ∃ z13 : Int, r16 = some (vI z13) ∧ Shp M14 ∧ (((z8 ≤ z13) → (Run (e + 1) mX11_together 17 [some (vR 468), some (vI l1), some (vI (w32 (l2 + (1 : Int))))] [] M14 Q)) ∧ (¬ (z8 ≤ z13) → (Call e mX11_doesBear [vR 468, vI l2] M14 (fun r22 M20 => ∃ z19 : Int, r22 = some (vI z19) ∧ Shp M20 ∧ (Run (e + 1) mX11_together 17 [some (vR 468), some (vI (if z19 = (0 : Int) then l1 else l2)), some (vI (w32 (l2 + (1 : Int))))] [] M20 Q))))))))))) :
  Run (e + 1) mX11_together 17 [some (vR 468), some (vI l1), some (vI l2)] [] M Q := by
  refine r_iload_n dX11_together_17 rfl ?_
  refine r_iconst dX11_together_18 (by decide) ?_
  refine r_aload_n dX11_together_19 rfl ?_
  refine r_get0 dX11_together_20 kF11_287 (sh_o hS kk468 (by decide)) ?_
  refine r_ishl dX11_together_23 ?_
  refine r_icmp_ge dX11_together_24 rfl (fun c7 => ?_) (fun c7 => ?_)
  · refine r_iload_n dX11_together_58 rfl ?_
    exact r_iret dX11_together_59 rfl (h.1 c7)
  · refine r_iload_n dX11_together_27 rfl ?_
    refine r_invS_i dX11_together_28 (by decide) kXn11_416 kM11_416 (by decide) (Nat.le_of_ble_eq_true rfl) rfl rfl (Nat.le_of_ble_eq_true rfl) (Nat.le_of_ble_eq_true rfl) (Call.mono (h.2 c7) (Nat.le_refl _) ?_)
    rintro _ M9 ⟨z8, rfl, s12, h10⟩
    refine ⟨_, rfl, ?_⟩
    refine r_iload_n dX11_together_31 rfl ?_
    refine r_invS_i dX11_together_32 (by decide) kXn11_416 kM11_416 (by decide) (Nat.le_of_ble_eq_true rfl) rfl rfl (Nat.le_of_ble_eq_true rfl) (Nat.le_of_ble_eq_true rfl) (Call.mono h10 (Nat.le_refl _) ?_)
    rintro _ M14 ⟨z13, rfl, s17, h15⟩
    refine ⟨_, rfl, ?_⟩
    refine r_icmp_le dX11_together_35 rfl (fun c18 => ?_) (fun c18 => ?_)
    · refine r_iload_n dX11_together_50 rfl ?_
      refine r_istore_n (ls2 := [some (vR 468), some (vI l1), some (vI l2)]) dX11_together_51 (Nat.le_of_ble_eq_true rfl) rfl ?_
      refine r_iinc (ls2 := [some (vR 468), some (vI l1), some (vI (w32 (l2 + (1 : Int))))]) dX11_together_52 rfl rfl ?_
      refine r_goto (tgt := 17) dX11_together_55 rfl ?_
      exact (h15.1 c18)
    · refine r_aload_n dX11_together_38 rfl ?_
      refine r_iload_n dX11_together_39 rfl ?_
      refine r_invV_i dX11_together_40 kM11_421 (by decide) (Nat.le_of_ble_eq_true rfl) rfl rfl (Nat.le_of_ble_eq_true rfl) (Nat.le_of_ble_eq_true rfl) (sh_o s17 kk468 (by decide)) (Call.mono (h15.2 c18) (Nat.le_refl _) ?_)
      rintro _ M20 ⟨z19, rfl, s23, h21⟩
      refine ⟨_, rfl, ?_⟩
      have K24 : Run (e + 1) mX11_together 51 [some (vR 468), some (vI l1), some (vI l2)] [vI (if z19 = (0 : Int) then l1 else l2)] M20 Q := by
        refine r_istore_n (ls2 := [some (vR 468), some (vI (if z19 = (0 : Int) then l1 else l2)), some (vI l2)]) dX11_together_51 (Nat.le_of_ble_eq_true rfl) rfl ?_
        refine r_iinc (ls2 := [some (vR 468), some (vI (if z19 = (0 : Int) then l1 else l2)), some (vI (w32 (l2 + (1 : Int))))]) dX11_together_52 rfl rfl ?_
        refine r_goto (tgt := 17) dX11_together_55 rfl ?_
        exact h21
      refine r_if_eq dX11_together_43 rfl (fun q25 => ?_) (fun q25 => ?_)
      · rw [if_pos q25] at K24
        refine r_iload_n dX11_together_50 rfl ?_
        exact K24
      · rw [if_neg q25] at K24
        refine r_iload_n dX11_together_46 rfl ?_
        refine r_goto (tgt := 51) dX11_together_47 rfl ?_
        exact K24
theorem vn_goings {e : Nat} {M : jM} {Q : Option jV → jM → Prop}  (he : 6 ≤ e) (hS : Shp M)
  (h : (((iv M 468 25) ≠ (0 : Int)) → (Call e mX11_layWeights [vR 468] M (fun r5 M3 => r5 = none ∧ Shp M3 ∧ (∀ N7 : jM, N7 = (si M3 491 0 (0 : Int)) → Shp N7 → (Run (e + 1) mX11_goings 22 [some (vR 468), some (vI (1 : Int)), none] [] N7 Q))))) ∧ (¬ ((iv M 468 25) ≠ (0 : Int)) → (Q (some (vI (-1 : Int))) M))) :
  Call (e + 1) mX11_goings [vR 468] M Q := by
  show Run (e + 1) mX11_goings 0 [some (vR 468), none, none] [] M Q
  refine r_aload_n dX11_goings_0 rfl ?_
  refine r_get0 dX11_goings_1 kF11_287 (sh_o hS kk468 (by decide)) ?_
  refine r_if_ne dX11_goings_4 rfl (fun c1 => ?_) (fun c1 => ?_)
  · refine r_aload_n dX11_goings_9 rfl ?_
    refine r_invV_v dX11_goings_10 kM11_413 (by decide) (Nat.le_of_ble_eq_true rfl) rfl rfl (Nat.le_of_ble_eq_true rfl) (Nat.le_of_ble_eq_true rfl) (sh_o hS kk468 (by decide)) (Call.mono (h.1 c1) (Nat.le_refl _) ?_)
    rintro _ M3 ⟨rfl, s6, h4⟩
    refine ⟨rfl, ?_⟩
    refine r_aload_n dX11_goings_13 rfl ?_
    refine r_getS (v := 491) dX11_goings_14 kF11_84 (sh_o s6 kk468 (by decide)) (sh_f s6 rr468_37 (by decide)) ?_
    refine r_iconst dX11_goings_17 (by decide) ?_
    refine r_iconst dX11_goings_18 (by decide) ?_
    refine r_iastoreK (k := 0) dX11_goings_19 rfl ⟨jro_ix (n := 256) (sh_r s6 kk491 (by decide)) (by decide), (by decide)⟩ ?_
    have K10 : ∀ N7 : jM, N7 = (si M3 491 0 (0 : Int)) → Run (e + 1) mX11_goings 20 [some (vR 468), none, none] [] N7 Q := by
      intro N7 hN9
      have sN8 : Shp N7 := by rw [hN9]; exact s6
      refine r_iconst dX11_goings_20 (by decide) ?_
      refine r_istore_n (ls2 := [some (vR 468), some (vI (1 : Int)), none]) dX11_goings_21 (Nat.le_of_ble_eq_true rfl) rfl ?_
      exact (h4 N7 hN9 sN8)
    exact K10 _ rfl
  · refine r_iconst dX11_goings_7 (by decide) ?_
    exact r_iret dX11_goings_8 rfl (h.2 c1)
theorem vn_goings_22 {e : Nat} {M : jM} {Q : Option jV → jM → Prop} {l1 : Int} {l2 : Option jV}  (he : 6 ≤ e) (hS : Shp M)
  (h : (((jshl (1 : Int) (iv M 468 25)) ≤ l1) → ((0 ≤ (w32 ((jshl (1 : Int) (iv M 468 25)) - (1 : Int))) ∧ (w32 ((jshl (1 : Int) (iv M 468 25)) - (1 : Int))) < 256) ∧ ((((iv M 491 (w32 ((jshl (1 : Int) (iv M 468 25)) - (1 : Int))).toNat) < (1000000 : Int)) → (Q (some (vI (iv M 491 (w32 ((jshl (1 : Int) (iv M 468 25)) - (1 : Int))).toNat))) M)) ∧ (¬ ((iv M 491 (w32 ((jshl (1 : Int) (iv M 468 25)) - (1 : Int))).toNat) < (1000000 : Int)) → (Q (some (vI (-1 : Int))) M))))) ∧ (¬ ((jshl (1 : Int) (iv M 468 25)) ≤ l1) → ((0 ≤ l1 ∧ l1 < 256) ∧ (∀ N15 : jM, N15 = (si M 491 (l1).toNat (1000000 : Int)) → Shp N15 → (Run (e + 1) mX11_goings 43 [some (vR 468), some (vI l1), some (vI l1)] [] N15 Q))))) :
  Run (e + 1) mX11_goings 22 [some (vR 468), some (vI l1), l2] [] M Q := by
  refine r_iload_n dX11_goings_22 rfl ?_
  refine r_iconst dX11_goings_23 (by decide) ?_
  refine r_aload_n dX11_goings_24 rfl ?_
  refine r_get0 dX11_goings_25 kF11_287 (sh_o hS kk468 (by decide)) ?_
  refine r_ishl dX11_goings_28 ?_
  refine r_icmp_ge dX11_goings_29 rfl (fun c11 => ?_) (fun c11 => ?_)
  · refine r_iconst dX11_goings_118 (by decide) ?_
    refine r_aload_n dX11_goings_119 rfl ?_
    refine r_get0 dX11_goings_120 kF11_287 (sh_o hS kk468 (by decide)) ?_
    refine r_ishl dX11_goings_123 ?_
    refine r_iconst dX11_goings_124 (by decide) ?_
    refine r_isub dX11_goings_125 ?_
    refine r_istore_n (ls2 := [some (vR 468), some (vI (w32 ((jshl (1 : Int) (iv M 468 25)) - (1 : Int)))), l2]) dX11_goings_126 (Nat.le_of_ble_eq_true rfl) rfl ?_
    refine r_aload_n dX11_goings_127 rfl ?_
    refine r_getS (v := 491) dX11_goings_128 kF11_84 (sh_o hS kk468 (by decide)) (sh_f hS rr468_37 (by decide)) ?_
    refine r_iload_n dX11_goings_131 rfl ?_
    have ob12 := (h.1 c11).1
    refine r_iaload dX11_goings_132 (jro_ix (sh_r hS kk491 (by decide)) ob12) ?_
    refine r_ldc_w dX11_goings_133 kK11_424 ?_
    refine r_icmp_lt dX11_goings_136 rfl (fun c13 => ?_) (fun c13 => ?_)
    · refine r_aload_n dX11_goings_143 rfl ?_
      refine r_getS (v := 491) dX11_goings_144 kF11_84 (sh_o hS kk468 (by decide)) (sh_f hS rr468_37 (by decide)) ?_
      refine r_iload_n dX11_goings_147 rfl ?_
      refine r_iaload dX11_goings_148 (jro_ix (sh_r hS kk491 (by decide)) ob12) ?_
      exact r_iret dX11_goings_149 rfl ((h.1 c11).2.1 c13)
    · refine r_iconst dX11_goings_139 (by decide) ?_
      refine r_goto (tgt := 149) dX11_goings_140 rfl ?_
      exact r_iret dX11_goings_149 rfl ((h.1 c11).2.2 c13)
  · refine r_aload_n dX11_goings_32 rfl ?_
    refine r_getS (v := 491) dX11_goings_33 kF11_84 (sh_o hS kk468 (by decide)) (sh_f hS rr468_37 (by decide)) ?_
    refine r_iload_n dX11_goings_36 rfl ?_
    refine r_ldc_w dX11_goings_37 kK11_424 ?_
    have ob14 := (h.2 c11).1
    refine r_iastore dX11_goings_40 ⟨jro_ix (sh_r hS kk491 (by decide)) ob14, (by decide)⟩ ?_
    have K18 : ∀ N15 : jM, N15 = (si M 491 (l1).toNat (1000000 : Int)) → Run (e + 1) mX11_goings 41 [some (vR 468), some (vI l1), l2] [] N15 Q := by
      intro N15 hN17
      have sN16 : Shp N15 := by rw [hN17]; exact hS
      refine r_iload_n dX11_goings_41 rfl ?_
      refine r_istore_n (ls2 := [some (vR 468), some (vI l1), some (vI l1)]) dX11_goings_42 (Nat.le_of_ble_eq_true rfl) rfl ?_
      exact ((h.2 c11).2 N15 hN17 sN16)
    exact K18 _ rfl
theorem vn_goings_43 {e : Nat} {M : jM} {Q : Option jV → jM → Prop} {l1 : Int} {l2 : Int}  (he : 6 ≤ e) (hS : Shp M)
  (h : ((l2 ≤ (0 : Int)) → (Run (e + 1) mX11_goings 22 [some (vR 468), some (vI (w32 (l1 + (1 : Int)))), some (vI l2)] [] M Q)) ∧ (¬ (l2 ≤ (0 : Int)) → ((0 ≤ (jand l1 (jxor l2 (-1 : Int))) ∧ (jand l1 (jxor l2 (-1 : Int))) < 256) ∧ ((0 ≤ l1 ∧ l1 < 256) ∧ ((((iv M 491 (l1).toNat) ≤ (w32 ((iv M 491 (jand l1 (jxor l2 (-1 : Int))).toNat) + (1 : Int)))) → (∀ N23 : jM, N23 = (si M 491 (l1).toNat (iv M 491 (l1).toNat)) → Shp N23 → (Run (e + 1) mX11_goings 43 [some (vR 468), some (vI l1), some (vI (jand (w32 (l2 - (1 : Int))) l1))] [] N23 Q))) ∧ (¬ ((iv M 491 (l1).toNat) ≤ (w32 ((iv M 491 (jand l1 (jxor l2 (-1 : Int))).toNat) + (1 : Int)))) → (Call e mX11_doesBear [vR 468, vI l2] M (fun r28 M26 => ∃ z25 : Int, r28 = some (vI z25) ∧ Shp M26 ∧ (((z25 = (0 : Int)) → (∀ N31 : jM, N31 = (si M26 491 (l1).toNat (iv M26 491 (l1).toNat)) → Shp N31 → (Run (e + 1) mX11_goings 43 [some (vR 468), some (vI l1), some (vI (jand (w32 (l2 - (1 : Int))) l1))] [] N31 Q))) ∧ (¬ (z25 = (0 : Int)) → (∀ N33 : jM, N33 = (si M26 491 (l1).toNat (w32 ((iv M26 491 (jand l1 (jxor l2 (-1 : Int))).toNat) + (1 : Int)))) → Shp N33 → (Run (e + 1) mX11_goings 43 [some (vR 468), some (vI l1), some (vI (jand (w32 (l2 - (1 : Int))) l1))] [] N33 Q)))))))))))) :
  Run (e + 1) mX11_goings 43 [some (vR 468), some (vI l1), some (vI l2)] [] M Q := by
  refine r_iload_n dX11_goings_43 rfl ?_
  refine r_if_le dX11_goings_44 rfl (fun c19 => ?_) (fun c19 => ?_)
  · refine r_iinc (ls2 := [some (vR 468), some (vI (w32 (l1 + (1 : Int)))), some (vI l2)]) dX11_goings_112 rfl rfl ?_
    refine r_goto (tgt := 22) dX11_goings_115 rfl ?_
    exact (h.1 c19)
  · refine r_aload_n dX11_goings_47 rfl ?_
    refine r_getS (v := 491) dX11_goings_48 kF11_84 (sh_o hS kk468 (by decide)) (sh_f hS rr468_37 (by decide)) ?_
    refine r_iload_n dX11_goings_51 rfl ?_
    refine r_aload_n dX11_goings_52 rfl ?_
    refine r_getS (v := 491) dX11_goings_53 kF11_84 (sh_o hS kk468 (by decide)) (sh_f hS rr468_37 (by decide)) ?_
    refine r_iload_n dX11_goings_56 rfl ?_
    refine r_iload_n dX11_goings_57 rfl ?_
    refine r_iconst dX11_goings_58 (by decide) ?_
    refine r_ixor dX11_goings_59 ?_
    refine r_iand dX11_goings_60 ?_
    have ob20 := (h.2 c19).1
    refine r_iaload dX11_goings_61 (jro_ix (sh_r hS kk491 (by decide)) ob20) ?_
    refine r_iconst dX11_goings_62 (by decide) ?_
    refine r_iadd dX11_goings_63 ?_
    refine r_aload_n dX11_goings_64 rfl ?_
    refine r_getS (v := 491) dX11_goings_65 kF11_84 (sh_o hS kk468 (by decide)) (sh_f hS rr468_37 (by decide)) ?_
    refine r_iload_n dX11_goings_68 rfl ?_
    have ob21 := (h.2 c19).2.1
    refine r_iaload dX11_goings_69 (jro_ix (sh_r hS kk491 (by decide)) ob21) ?_
    refine r_icmp_ge dX11_goings_70 rfl (fun c22 => ?_) (fun c22 => ?_)
    · refine r_aload_n dX11_goings_96 rfl ?_
      refine r_getS (v := 491) dX11_goings_97 kF11_84 (sh_o hS kk468 (by decide)) (sh_f hS rr468_37 (by decide)) ?_
      refine r_iload_n dX11_goings_100 rfl ?_
      refine r_iaload dX11_goings_101 (jro_ix (sh_r hS kk491 (by decide)) ob21) ?_
      refine r_iastore dX11_goings_102 ⟨jro_ix (sh_r hS kk491 (by decide)) ob21, (by decide)⟩ ?_
      have K36 : ∀ N23 : jM, N23 = (si M 491 (l1).toNat (iv M 491 (l1).toNat)) → Run (e + 1) mX11_goings 103 [some (vR 468), some (vI l1), some (vI l2)] [] N23 Q := by
        intro N23 hN35
        have sN24 : Shp N23 := by rw [hN35]; exact hS
        refine r_iload_n dX11_goings_103 rfl ?_
        refine r_iconst dX11_goings_104 (by decide) ?_
        refine r_isub dX11_goings_105 ?_
        refine r_iload_n dX11_goings_106 rfl ?_
        refine r_iand dX11_goings_107 ?_
        refine r_istore_n (ls2 := [some (vR 468), some (vI l1), some (vI (jand (w32 (l2 - (1 : Int))) l1))]) dX11_goings_108 (Nat.le_of_ble_eq_true rfl) rfl ?_
        refine r_goto (tgt := 43) dX11_goings_109 rfl ?_
        exact (((h.2 c19).2.2.1 c22) N23 hN35 sN24)
      exact K36 _ rfl
    · refine r_aload_n dX11_goings_73 rfl ?_
      refine r_iload_n dX11_goings_74 rfl ?_
      refine r_invV_i dX11_goings_75 kM11_421 (by decide) (Nat.le_of_ble_eq_true rfl) rfl rfl (Nat.le_of_ble_eq_true rfl) (Nat.le_of_ble_eq_true rfl) (sh_o hS kk468 (by decide)) (Call.mono ((h.2 c19).2.2.2 c22) (Nat.le_refl _) ?_)
      rintro _ M26 ⟨z25, rfl, s29, h27⟩
      refine ⟨_, rfl, ?_⟩
      refine r_if_eq dX11_goings_78 rfl (fun c30 => ?_) (fun c30 => ?_)
      · refine r_aload_n dX11_goings_96 rfl ?_
        refine r_getS (v := 491) dX11_goings_97 kF11_84 (sh_o s29 kk468 (by decide)) (sh_f s29 rr468_37 (by decide)) ?_
        refine r_iload_n dX11_goings_100 rfl ?_
        refine r_iaload dX11_goings_101 (jro_ix (sh_r s29 kk491 (by decide)) ob21) ?_
        refine r_iastore dX11_goings_102 ⟨jro_ix (sh_r s29 kk491 (by decide)) ob21, (by decide)⟩ ?_
        have K38 : ∀ N31 : jM, N31 = (si M26 491 (l1).toNat (iv M26 491 (l1).toNat)) → Run (e + 1) mX11_goings 103 [some (vR 468), some (vI l1), some (vI l2)] [] N31 Q := by
          intro N31 hN37
          have sN32 : Shp N31 := by rw [hN37]; exact s29
          refine r_iload_n dX11_goings_103 rfl ?_
          refine r_iconst dX11_goings_104 (by decide) ?_
          refine r_isub dX11_goings_105 ?_
          refine r_iload_n dX11_goings_106 rfl ?_
          refine r_iand dX11_goings_107 ?_
          refine r_istore_n (ls2 := [some (vR 468), some (vI l1), some (vI (jand (w32 (l2 - (1 : Int))) l1))]) dX11_goings_108 (Nat.le_of_ble_eq_true rfl) rfl ?_
          refine r_goto (tgt := 43) dX11_goings_109 rfl ?_
          exact ((h27.1 c30) N31 hN37 sN32)
        exact K38 _ rfl
      · refine r_aload_n dX11_goings_81 rfl ?_
        refine r_getS (v := 491) dX11_goings_82 kF11_84 (sh_o s29 kk468 (by decide)) (sh_f s29 rr468_37 (by decide)) ?_
        refine r_iload_n dX11_goings_85 rfl ?_
        refine r_iload_n dX11_goings_86 rfl ?_
        refine r_iconst dX11_goings_87 (by decide) ?_
        refine r_ixor dX11_goings_88 ?_
        refine r_iand dX11_goings_89 ?_
        refine r_iaload dX11_goings_90 (jro_ix (sh_r s29 kk491 (by decide)) ob20) ?_
        refine r_iconst dX11_goings_91 (by decide) ?_
        refine r_iadd dX11_goings_92 ?_
        refine r_goto (tgt := 102) dX11_goings_93 rfl ?_
        refine r_iastore dX11_goings_102 ⟨jro_ix (sh_r s29 kk491 (by decide)) ob21, (by decide)⟩ ?_
        have K40 : ∀ N33 : jM, N33 = (si M26 491 (l1).toNat (w32 ((iv M26 491 (jand l1 (jxor l2 (-1 : Int))).toNat) + (1 : Int)))) → Run (e + 1) mX11_goings 103 [some (vR 468), some (vI l1), some (vI l2)] [] N33 Q := by
          intro N33 hN39
          have sN34 : Shp N33 := by rw [hN39]; exact s29
          refine r_iload_n dX11_goings_103 rfl ?_
          refine r_iconst dX11_goings_104 (by decide) ?_
          refine r_isub dX11_goings_105 ?_
          refine r_iload_n dX11_goings_106 rfl ?_
          refine r_iand dX11_goings_107 ?_
          refine r_istore_n (ls2 := [some (vR 468), some (vI l1), some (vI (jand (w32 (l2 - (1 : Int))) l1))]) dX11_goings_108 (Nat.le_of_ble_eq_true rfl) rfl ?_
          refine r_goto (tgt := 43) dX11_goings_109 rfl ?_
          exact ((h27.2 c30) N33 hN39 sN34)
        exact K40 _ rfl
theorem vn_isHeldBy {e : Nat} {M : jM} {Q : Option jV → jM → Prop} {w : Int} {sm : Int} (he : 6 ≤ e) (hS : Shp M)
  (h : Call e mX11_putAside [vR 468, vI (0 : Int)] M (fun r4 M2 => r4 = none ∧ Shp M2 ∧ (Run (e + 1) mX11_isHeldBy 7 [some (vR 468), some (vI w), some (vI sm), some (vI (0 : Int))] [] M2 Q))) :
  Call (e + 1) mX11_isHeldBy [vR 468, vI w, vI sm] M Q := by
  show Run (e + 1) mX11_isHeldBy 0 [some (vR 468), some (vI w), some (vI sm), none] [] M Q
  refine r_aload_n dX11_isHeldBy_0 rfl ?_
  refine r_iconst dX11_isHeldBy_1 (by decide) ?_
  refine r_invV_v dX11_isHeldBy_2 kM11_404 (by decide) (Nat.le_of_ble_eq_true rfl) rfl rfl (Nat.le_of_ble_eq_true rfl) (Nat.le_of_ble_eq_true rfl) (sh_o hS kk468 (by decide)) (Call.mono h (Nat.le_refl _) ?_)
  rintro _ M2 ⟨rfl, s5, h3⟩
  refine ⟨rfl, ?_⟩
  refine r_iconst dX11_isHeldBy_5 (by decide) ?_
  refine r_istore_n (ls2 := [some (vR 468), some (vI w), some (vI sm), some (vI (0 : Int))]) dX11_isHeldBy_6 (Nat.le_of_ble_eq_true rfl) rfl ?_
  exact h3
theorem vn_isHeldBy_7 {e : Nat} {M : jM} {Q : Option jV → jM → Prop} {w : Int} {sm : Int} {l3 : Int}  (he : 6 ≤ e) (hS : Shp M)
  (h : (((iv M 468 25) ≤ l3) → (Call e mX11_doesFloat [vR 468, vI w] M (fun r10 M8 => ∃ z7 : Int, r10 = some (vI z7) ∧ Shp M8 ∧ (Call e mX11_takeBack [vR 468, vI (0 : Int)] M8 (fun r15 M13 => r15 = none ∧ Shp M13 ∧ (Q (some (vI (if z7 ≠ (0 : Int) then (0 : Int) else (1 : Int)))) M13)))))) ∧ (¬ ((iv M 468 25) ≤ l3) → ((((fHas sm l3) = (0 : Int)) → (Run (e + 1) mX11_isHeldBy 7 [some (vR 468), some (vI w), some (vI sm), some (vI (w32 (l3 + (1 : Int))))] [] M Q)) ∧ (¬ ((fHas sm l3) = (0 : Int)) → (Call e mX11_putThought [vR 468, vI l3, vI w, vI (0 : Int), vI (5 : Int)] M (fun r21 M19 => r21 = none ∧ Shp M19 ∧ (Run (e + 1) mX11_isHeldBy 7 [some (vR 468), some (vI w), some (vI sm), some (vI (w32 (l3 + (1 : Int))))] [] M19 Q))))))) :
  Run (e + 1) mX11_isHeldBy 7 [some (vR 468), some (vI w), some (vI sm), some (vI l3)] [] M Q := by
  refine r_iload_n dX11_isHeldBy_7 rfl ?_
  refine r_aload_n dX11_isHeldBy_8 rfl ?_
  refine r_get0 dX11_isHeldBy_9 kF11_287 (sh_o hS kk468 (by decide)) ?_
  refine r_icmp_ge dX11_isHeldBy_12 rfl (fun c6 => ?_) (fun c6 => ?_)
  · refine r_aload_n dX11_isHeldBy_37 rfl ?_
    refine r_iload_n dX11_isHeldBy_38 rfl ?_
    refine r_invV_i dX11_isHeldBy_39 kM11_346 (by decide) (Nat.le_of_ble_eq_true rfl) rfl rfl (Nat.le_of_ble_eq_true rfl) (Nat.le_of_ble_eq_true rfl) (sh_o hS kk468 (by decide)) (Call.mono (h.1 c6) (Nat.le_refl _) ?_)
    rintro _ M8 ⟨z7, rfl, s11, h9⟩
    refine ⟨_, rfl, ?_⟩
    have K23 : Run (e + 1) mX11_isHeldBy 50 [some (vR 468), some (vI w), some (vI sm), some (vI l3)] [vI (if z7 ≠ (0 : Int) then (0 : Int) else (1 : Int))] M8 Q := by
      refine r_istore_n (ls2 := [some (vR 468), some (vI w), some (vI sm), some (vI (if z7 ≠ (0 : Int) then (0 : Int) else (1 : Int)))]) dX11_isHeldBy_50 (Nat.le_of_ble_eq_true rfl) rfl ?_
      refine r_aload_n dX11_isHeldBy_51 rfl ?_
      refine r_iconst dX11_isHeldBy_52 (by decide) ?_
      refine r_invV_v dX11_isHeldBy_53 kM11_407 (by decide) (Nat.le_of_ble_eq_true rfl) rfl rfl (Nat.le_of_ble_eq_true rfl) (Nat.le_of_ble_eq_true rfl) (sh_o s11 kk468 (by decide)) (Call.mono h9 (Nat.le_refl _) ?_)
      rintro _ M13 ⟨rfl, s16, h14⟩
      refine ⟨rfl, ?_⟩
      refine r_iload_n dX11_isHeldBy_56 rfl ?_
      exact r_zret dX11_isHeldBy_57 rfl (by (repeat' split) <;> first | exact Or.inl rfl | exact Or.inr rfl) h14
    refine r_if_ne dX11_isHeldBy_42 rfl (fun q24 => ?_) (fun q24 => ?_)
    · rw [if_pos q24] at K23
      refine r_iconst dX11_isHeldBy_49 (by decide) ?_
      exact K23
    · rw [if_neg q24] at K23
      refine r_iconst dX11_isHeldBy_45 (by decide) ?_
      refine r_goto (tgt := 50) dX11_isHeldBy_46 rfl ?_
      exact K23
  · refine r_iload_n dX11_isHeldBy_15 rfl ?_
    refine r_iload_n dX11_isHeldBy_16 rfl ?_
    refine r_invS_i dX11_isHeldBy_17 (by decide) kXn11_235 kM11_235 (by decide) (Nat.le_of_ble_eq_true rfl) rfl rfl (Nat.le_of_ble_eq_true rfl) (Nat.le_of_ble_eq_true rfl) (m_has (by omega) hS ⟨_, rfl, ?_⟩)
    refine r_if_eq dX11_isHeldBy_20 rfl (fun c17 => ?_) (fun c17 => ?_)
    · refine r_iinc (ls2 := [some (vR 468), some (vI w), some (vI sm), some (vI (w32 (l3 + (1 : Int))))]) dX11_isHeldBy_31 rfl rfl ?_
      refine r_goto (tgt := 7) dX11_isHeldBy_34 rfl ?_
      exact ((h.2 c6).1 c17)
    · refine r_aload_n dX11_isHeldBy_23 rfl ?_
      refine r_iload_n dX11_isHeldBy_24 rfl ?_
      refine r_iload_n dX11_isHeldBy_25 rfl ?_
      refine r_iconst dX11_isHeldBy_26 (by decide) ?_
      refine r_iconst dX11_isHeldBy_27 (by decide) ?_
      refine r_invV_v dX11_isHeldBy_28 kM11_284 (by decide) (Nat.le_of_ble_eq_true rfl) rfl rfl (Nat.le_of_ble_eq_true rfl) (Nat.le_of_ble_eq_true rfl) (sh_o hS kk468 (by decide)) (Call.mono ((h.2 c6).2 c17) (Nat.le_refl _) ?_)
      rintro _ M19 ⟨rfl, s22, h20⟩
      refine ⟨rfl, ?_⟩
      refine r_iinc (ls2 := [some (vR 468), some (vI w), some (vI sm), some (vI (w32 (l3 + (1 : Int))))]) dX11_isHeldBy_31 rfl rfl ?_
      refine r_goto (tgt := 7) dX11_isHeldBy_34 rfl ?_
      exact h20
theorem vn_held {e : Nat} {M : jM} {Q : Option jV → jM → Prop} {w : Int} (he : 6 ≤ e) (hS : Shp M)
  (h : (((fIn w 0 (w32 (iv M 468 25 - 1))) ≠ (0 : Int)) → (Run (e + 1) mX11_held 14 [some (vR 468), some (vI w), some (vI (0 : Int)), some (vI (0 : Int)), none, none] [] M Q)) ∧ (¬ ((fIn w 0 (w32 (iv M 468 25 - 1))) ≠ (0 : Int)) → (Q (some (vI (-1 : Int))) M))) :
  Call (e + 1) mX11_held [vR 468, vI w] M Q := by
  show Run (e + 1) mX11_held 0 [some (vR 468), some (vI w), none, none, none, none] [] M Q
  refine r_aload_n dX11_held_0 rfl ?_
  refine r_iload_n dX11_held_1 rfl ?_
  refine r_invV_i dX11_held_2 kM11_309 (by decide) (Nat.le_of_ble_eq_true rfl) rfl rfl (Nat.le_of_ble_eq_true rfl) (Nat.le_of_ble_eq_true rfl) (sh_o hS kk468 (by decide)) (m_isPerson (by omega) hS ⟨_, rfl, ?_⟩)
  refine r_if_ne dX11_held_5 rfl (fun c1 => ?_) (fun c1 => ?_)
  · refine r_iconst dX11_held_10 (by decide) ?_
    refine r_istore_n (ls2 := [some (vR 468), some (vI w), some (vI (0 : Int)), none, none, none]) dX11_held_11 (Nat.le_of_ble_eq_true rfl) rfl ?_
    refine r_iconst dX11_held_12 (by decide) ?_
    refine r_istore_n (ls2 := [some (vR 468), some (vI w), some (vI (0 : Int)), some (vI (0 : Int)), none, none]) dX11_held_13 (Nat.le_of_ble_eq_true rfl) rfl ?_
    exact (h.1 c1)
  · refine r_iconst dX11_held_8 (by decide) ?_
    exact r_iret dX11_held_9 rfl (h.2 c1)
theorem vn_held_14 {e : Nat} {M : jM} {Q : Option jV → jM → Prop} {w : Int} {l2 : Int} {l3 : Int} {l4 : Option jV} {l5 : Option jV}  (he : 6 ≤ e) (hS : Shp M)
  (h : (((iv M 468 25) ≤ l3) → (Run (e + 1) mX11_held 66 [some (vR 468), some (vI w), some (vI l2), some (vI (-1 : Int)), some (vI (0 : Int)), l5] [] M Q)) ∧ (¬ ((iv M 468 25) ≤ l3) → (((l3 = w) → (Run (e + 1) mX11_held 14 [some (vR 468), some (vI w), some (vI (jor l2 (0 : Int))), some (vI (w32 (l3 + (1 : Int)))), l4, l5] [] M Q)) ∧ (¬ (l3 = w) → ((0 ≤ l3 ∧ l3 < 8) ∧ ((((fGm (iv M 483 (3 * l3 + 2).toNat) (0 : Int)) = (0 : Int)) → (Run (e + 1) mX11_held 14 [some (vR 468), some (vI w), some (vI (jor l2 (0 : Int))), some (vI (w32 (l3 + (1 : Int)))), l4, l5] [] M Q)) ∧ (¬ ((fGm (iv M 483 (3 * l3 + 2).toNat) (0 : Int)) = (0 : Int)) → (Call e mX11_emptyIn [vR 468, vI l3] M (fun r9 M7 => ∃ z6 : Int, r9 = some (vI z6) ∧ Shp M7 ∧ (Run (e + 1) mX11_held 14 [some (vR 468), some (vI w), some (vI (jor l2 (if z6 = (-1 : Int) then (0 : Int) else jshl (1 : Int) l3))), some (vI (w32 (l3 + (1 : Int)))), l4, l5] [] M7 Q)))))))))) :
  Run (e + 1) mX11_held 14 [some (vR 468), some (vI w), some (vI l2), some (vI l3), l4, l5] [] M Q := by
  refine r_iload_n dX11_held_14 rfl ?_
  refine r_aload_n dX11_held_15 rfl ?_
  refine r_get0 dX11_held_16 kF11_287 (sh_o hS kk468 (by decide)) ?_
  refine r_icmp_ge dX11_held_19 rfl (fun c2 => ?_) (fun c2 => ?_)
  · refine r_iconst dX11_held_61 (by decide) ?_
    refine r_istore_n (ls2 := [some (vR 468), some (vI w), some (vI l2), some (vI (-1 : Int)), l4, l5]) dX11_held_62 (Nat.le_of_ble_eq_true rfl) rfl ?_
    refine r_iconst dX11_held_63 (by decide) ?_
    refine r_istore (ls2 := [some (vR 468), some (vI w), some (vI l2), some (vI (-1 : Int)), some (vI (0 : Int)), l5]) dX11_held_64 (Nat.le_of_ble_eq_true rfl) rfl ?_
    exact (h.1 c2)
  · refine r_iload_n dX11_held_22 rfl ?_
    refine r_iload_n dX11_held_23 rfl ?_
    refine r_iload_n dX11_held_24 rfl ?_
    refine r_icmp_eq dX11_held_25 rfl (fun c3 => ?_) (fun c3 => ?_)
    · refine r_iconst dX11_held_52 (by decide) ?_
      refine r_ior dX11_held_53 ?_
      refine r_istore_n (ls2 := [some (vR 468), some (vI w), some (vI (jor l2 (0 : Int))), some (vI l3), l4, l5]) dX11_held_54 (Nat.le_of_ble_eq_true rfl) rfl ?_
      refine r_iinc (ls2 := [some (vR 468), some (vI w), some (vI (jor l2 (0 : Int))), some (vI (w32 (l3 + (1 : Int)))), l4, l5]) dX11_held_55 rfl rfl ?_
      refine r_goto (tgt := 14) dX11_held_58 rfl ?_
      exact ((h.2 c2).1 c3)
    · refine r_aload_n dX11_held_28 rfl ?_
      refine r_iload_n dX11_held_29 rfl ?_
      refine r_iconst dX11_held_30 (by decide) ?_
      have ob4 := ((h.2 c2).2 c3).1
      refine r_invV_i dX11_held_31 kM11_375 (by decide) (Nat.le_of_ble_eq_true rfl) rfl rfl (Nat.le_of_ble_eq_true rfl) (Nat.le_of_ble_eq_true rfl) (sh_o hS kk468 (by decide)) (m_goesTo (by omega) hS ob4 ⟨_, rfl, ?_⟩)
      refine r_if_eq dX11_held_34 rfl (fun c5 => ?_) (fun c5 => ?_)
      · refine r_iconst dX11_held_52 (by decide) ?_
        refine r_ior dX11_held_53 ?_
        refine r_istore_n (ls2 := [some (vR 468), some (vI w), some (vI (jor l2 (0 : Int))), some (vI l3), l4, l5]) dX11_held_54 (Nat.le_of_ble_eq_true rfl) rfl ?_
        refine r_iinc (ls2 := [some (vR 468), some (vI w), some (vI (jor l2 (0 : Int))), some (vI (w32 (l3 + (1 : Int)))), l4, l5]) dX11_held_55 rfl rfl ?_
        refine r_goto (tgt := 14) dX11_held_58 rfl ?_
        exact (((h.2 c2).2 c3).2.1 c5)
      · refine r_aload_n dX11_held_37 rfl ?_
        refine r_iload_n dX11_held_38 rfl ?_
        refine r_invV_i dX11_held_39 kM11_274 (by decide) (Nat.le_of_ble_eq_true rfl) rfl rfl (Nat.le_of_ble_eq_true rfl) (Nat.le_of_ble_eq_true rfl) (sh_o hS kk468 (by decide)) (Call.mono (((h.2 c2).2 c3).2.2 c5) (Nat.le_refl _) ?_)
        rintro _ M7 ⟨z6, rfl, s10, h8⟩
        refine ⟨_, rfl, ?_⟩
        refine r_iconst dX11_held_42 (by decide) ?_
        have K11 : Run (e + 1) mX11_held 53 [some (vR 468), some (vI w), some (vI l2), some (vI l3), l4, l5] [vI (if z6 = (-1 : Int) then (0 : Int) else jshl (1 : Int) l3), vI l2] M7 Q := by
          refine r_ior dX11_held_53 ?_
          refine r_istore_n (ls2 := [some (vR 468), some (vI w), some (vI (jor l2 (if z6 = (-1 : Int) then (0 : Int) else jshl (1 : Int) l3))), some (vI l3), l4, l5]) dX11_held_54 (Nat.le_of_ble_eq_true rfl) rfl ?_
          refine r_iinc (ls2 := [some (vR 468), some (vI w), some (vI (jor l2 (if z6 = (-1 : Int) then (0 : Int) else jshl (1 : Int) l3))), some (vI (w32 (l3 + (1 : Int)))), l4, l5]) dX11_held_55 rfl rfl ?_
          refine r_goto (tgt := 14) dX11_held_58 rfl ?_
          exact h8
        refine r_icmp_eq dX11_held_43 rfl (fun q12 => ?_) (fun q12 => ?_)
        · rw [if_pos q12] at K11
          refine r_iconst dX11_held_52 (by decide) ?_
          exact K11
        · rw [if_neg q12] at K11
          refine r_iconst dX11_held_46 (by decide) ?_
          refine r_iload_n dX11_held_47 rfl ?_
          refine r_ishl dX11_held_48 ?_
          refine r_goto (tgt := 53) dX11_held_49 rfl ?_
          exact K11
theorem vn_held_66 {e : Nat} {M : jM} {Q : Option jV → jM → Prop} {w : Int} {l2 : Int} {l3 : Int} {l4 : Int} {l5 : Option jV}  (he : 6 ≤ e) (hS : Shp M)
  (h : (((jshl (1 : Int) (iv M 468 25)) ≤ l4) → (Q (some (vI l3)) M)) ∧ (¬ ((jshl (1 : Int) (iv M 468 25)) ≤ l4) → ((((jand l4 (jxor l2 (-1 : Int))) ≠ (0 : Int)) → (Run (e + 1) mX11_held 66 [some (vR 468), some (vI w), some (vI l2), some (vI l3), some (vI (w32 (l4 + (1 : Int)))), some (vI (0 : Int))] [] M Q)) ∧ (¬ ((jand l4 (jxor l2 (-1 : Int))) ≠ (0 : Int)) → (((l3 = (-1 : Int)) → (Call e mX11_isHeldBy [vR 468, vI w, vI l4] M (fun r20 M18 => ∃ z17 : Int, r20 = some (vI z17) ∧ Shp M18 ∧ (Run (e + 1) mX11_held 66 [some (vR 468), some (vI w), some (vI l2), some (vI (if z17 = (0 : Int) then l3 else l4)), some (vI (w32 (l4 + (1 : Int)))), some (vI (1 : Int))] [] M18 Q)))) ∧ (¬ (l3 = (-1 : Int)) → (Call e mJ6_bitCount_0f7a4 [vI l4] M (fun r25 M23 => ∃ z22 : Int, r25 = some (vI z22) ∧ Shp M23 ∧ (Call e mJ6_bitCount_0f7a4 [vI l3] M23 (fun r30 M28 => ∃ z27 : Int, r30 = some (vI z27) ∧ Shp M28 ∧ ((((if z27 ≤ z22 then (0 : Int) else (1 : Int)) = (0 : Int)) → (Run (e + 1) mX11_held 66 [some (vR 468), some (vI w), some (vI l2), some (vI l3), some (vI (w32 (l4 + (1 : Int)))), some (vI (if z27 ≤ z22 then (0 : Int) else (1 : Int)))] [] M28 Q)) ∧ (¬ ((if z27 ≤ z22 then (0 : Int) else (1 : Int)) = (0 : Int)) → (Call e mX11_isHeldBy [vR 468, vI w, vI l4] M28 (fun r36 M34 => ∃ z33 : Int, r36 = some (vI z33) ∧ Shp M34 ∧ (Run (e + 1) mX11_held 66 [some (vR 468), some (vI w), some (vI l2), some (vI (if z33 = (0 : Int) then l3 else l4)), some (vI (w32 (l4 + (1 : Int)))), some (vI (if z27 ≤ z22 then (0 : Int) else (1 : Int)))] [] M34 Q))))))))))))))) :
  Run (e + 1) mX11_held 66 [some (vR 468), some (vI w), some (vI l2), some (vI l3), some (vI l4), l5] [] M Q := by
  refine r_iload dX11_held_66 rfl ?_
  refine r_iconst dX11_held_68 (by decide) ?_
  refine r_aload_n dX11_held_69 rfl ?_
  refine r_get0 dX11_held_70 kF11_287 (sh_o hS kk468 (by decide)) ?_
  refine r_ishl dX11_held_73 ?_
  refine r_icmp_ge dX11_held_74 rfl (fun c14 => ?_) (fun c14 => ?_)
  · refine r_iload_n dX11_held_138 rfl ?_
    exact r_iret dX11_held_139 rfl (h.1 c14)
  · refine r_iload dX11_held_77 rfl ?_
    refine r_iload_n dX11_held_79 rfl ?_
    refine r_iconst dX11_held_80 (by decide) ?_
    refine r_ixor dX11_held_81 ?_
    refine r_iand dX11_held_82 ?_
    refine r_if_ne dX11_held_83 rfl (fun c15 => ?_) (fun c15 => ?_)
    · refine r_iconst dX11_held_107 (by decide) ?_
      refine r_istore (ls2 := [some (vR 468), some (vI w), some (vI l2), some (vI l3), some (vI l4), some (vI (0 : Int))]) dX11_held_108 (Nat.le_of_ble_eq_true rfl) rfl ?_
      refine r_iload dX11_held_110 rfl ?_
      refine r_if_eq dX11_held_112 rfl (fun _ => ?_) (fun q => absurd (by decide) q)
      refine r_iload_n dX11_held_130 rfl ?_
      refine r_istore_n (ls2 := [some (vR 468), some (vI w), some (vI l2), some (vI l3), some (vI l4), some (vI (0 : Int))]) dX11_held_131 (Nat.le_of_ble_eq_true rfl) rfl ?_
      refine r_iinc (ls2 := [some (vR 468), some (vI w), some (vI l2), some (vI l3), some (vI (w32 (l4 + (1 : Int)))), some (vI (0 : Int))]) dX11_held_132 rfl rfl ?_
      refine r_goto (tgt := 66) dX11_held_135 rfl ?_
      exact ((h.2 c14).1 c15)
    · refine r_iload_n dX11_held_86 rfl ?_
      refine r_iconst dX11_held_87 (by decide) ?_
      refine r_icmp_eq dX11_held_88 rfl (fun c16 => ?_) (fun c16 => ?_)
      · refine r_iconst dX11_held_103 (by decide) ?_
        refine r_goto (tgt := 108) dX11_held_104 rfl ?_
        refine r_istore (ls2 := [some (vR 468), some (vI w), some (vI l2), some (vI l3), some (vI l4), some (vI (1 : Int))]) dX11_held_108 (Nat.le_of_ble_eq_true rfl) rfl ?_
        refine r_iload dX11_held_110 rfl ?_
        refine r_if_eq dX11_held_112 rfl (fun q => absurd q (by decide)) (fun _ => ?_)
        refine r_aload_n dX11_held_115 rfl ?_
        refine r_iload_n dX11_held_116 rfl ?_
        refine r_iload dX11_held_117 rfl ?_
        refine r_invV_i dX11_held_119 kM11_425 (by decide) (Nat.le_of_ble_eq_true rfl) rfl rfl (Nat.le_of_ble_eq_true rfl) (Nat.le_of_ble_eq_true rfl) (sh_o hS kk468 (by decide)) (Call.mono (((h.2 c14).2 c15).1 c16) (Nat.le_refl _) ?_)
        rintro _ M18 ⟨z17, rfl, s21, h19⟩
        refine ⟨_, rfl, ?_⟩
        have K38 : Run (e + 1) mX11_held 131 [some (vR 468), some (vI w), some (vI l2), some (vI l3), some (vI l4), some (vI (1 : Int))] [vI (if z17 = (0 : Int) then l3 else l4)] M18 Q := by
          refine r_istore_n (ls2 := [some (vR 468), some (vI w), some (vI l2), some (vI (if z17 = (0 : Int) then l3 else l4)), some (vI l4), some (vI (1 : Int))]) dX11_held_131 (Nat.le_of_ble_eq_true rfl) rfl ?_
          refine r_iinc (ls2 := [some (vR 468), some (vI w), some (vI l2), some (vI (if z17 = (0 : Int) then l3 else l4)), some (vI (w32 (l4 + (1 : Int)))), some (vI (1 : Int))]) dX11_held_132 rfl rfl ?_
          refine r_goto (tgt := 66) dX11_held_135 rfl ?_
          exact h19
        refine r_if_eq dX11_held_122 rfl (fun q39 => ?_) (fun q39 => ?_)
        · rw [if_pos q39] at K38
          refine r_iload_n dX11_held_130 rfl ?_
          exact K38
        · rw [if_neg q39] at K38
          refine r_iload dX11_held_125 rfl ?_
          refine r_goto (tgt := 131) dX11_held_127 rfl ?_
          exact K38
      · refine r_iload dX11_held_91 rfl ?_
        refine r_invS_i dX11_held_93 (by decide) kXn11_416 kM11_416 (by decide) (Nat.le_of_ble_eq_true rfl) rfl rfl (Nat.le_of_ble_eq_true rfl) (Nat.le_of_ble_eq_true rfl) (Call.mono (((h.2 c14).2 c15).2 c16) (Nat.le_refl _) ?_)
        rintro _ M23 ⟨z22, rfl, s26, h24⟩
        refine ⟨_, rfl, ?_⟩
        refine r_iload_n dX11_held_96 rfl ?_
        refine r_invS_i dX11_held_97 (by decide) kXn11_416 kM11_416 (by decide) (Nat.le_of_ble_eq_true rfl) rfl rfl (Nat.le_of_ble_eq_true rfl) (Nat.le_of_ble_eq_true rfl) (Call.mono h24 (Nat.le_refl _) ?_)
        rintro _ M28 ⟨z27, rfl, s31, h29⟩
        refine ⟨_, rfl, ?_⟩
        have K41 : Run (e + 1) mX11_held 108 [some (vR 468), some (vI w), some (vI l2), some (vI l3), some (vI l4), l5] [vI (if z27 ≤ z22 then (0 : Int) else (1 : Int))] M28 Q := by
          refine r_istore (ls2 := [some (vR 468), some (vI w), some (vI l2), some (vI l3), some (vI l4), some (vI (if z27 ≤ z22 then (0 : Int) else (1 : Int)))]) dX11_held_108 (Nat.le_of_ble_eq_true rfl) rfl ?_
          refine r_iload dX11_held_110 rfl ?_
          refine r_if_eq dX11_held_112 rfl (fun c32 => ?_) (fun c32 => ?_)
          · refine r_iload_n dX11_held_130 rfl ?_
            refine r_istore_n (ls2 := [some (vR 468), some (vI w), some (vI l2), some (vI l3), some (vI l4), some (vI (if z27 ≤ z22 then (0 : Int) else (1 : Int)))]) dX11_held_131 (Nat.le_of_ble_eq_true rfl) rfl ?_
            refine r_iinc (ls2 := [some (vR 468), some (vI w), some (vI l2), some (vI l3), some (vI (w32 (l4 + (1 : Int)))), some (vI (if z27 ≤ z22 then (0 : Int) else (1 : Int)))]) dX11_held_132 rfl rfl ?_
            refine r_goto (tgt := 66) dX11_held_135 rfl ?_
            exact (h29.1 c32)
          · refine r_aload_n dX11_held_115 rfl ?_
            refine r_iload_n dX11_held_116 rfl ?_
            refine r_iload dX11_held_117 rfl ?_
            refine r_invV_i dX11_held_119 kM11_425 (by decide) (Nat.le_of_ble_eq_true rfl) rfl rfl (Nat.le_of_ble_eq_true rfl) (Nat.le_of_ble_eq_true rfl) (sh_o s31 kk468 (by decide)) (Call.mono (h29.2 c32) (Nat.le_refl _) ?_)
            rintro _ M34 ⟨z33, rfl, s37, h35⟩
            refine ⟨_, rfl, ?_⟩
            have K42 : Run (e + 1) mX11_held 131 [some (vR 468), some (vI w), some (vI l2), some (vI l3), some (vI l4), some (vI (if z27 ≤ z22 then (0 : Int) else (1 : Int)))] [vI (if z33 = (0 : Int) then l3 else l4)] M34 Q := by
              refine r_istore_n (ls2 := [some (vR 468), some (vI w), some (vI l2), some (vI (if z33 = (0 : Int) then l3 else l4)), some (vI l4), some (vI (if z27 ≤ z22 then (0 : Int) else (1 : Int)))]) dX11_held_131 (Nat.le_of_ble_eq_true rfl) rfl ?_
              refine r_iinc (ls2 := [some (vR 468), some (vI w), some (vI l2), some (vI (if z33 = (0 : Int) then l3 else l4)), some (vI (w32 (l4 + (1 : Int)))), some (vI (if z27 ≤ z22 then (0 : Int) else (1 : Int)))]) dX11_held_132 rfl rfl ?_
              refine r_goto (tgt := 66) dX11_held_135 rfl ?_
              exact h35
            refine r_if_eq dX11_held_122 rfl (fun q43 => ?_) (fun q43 => ?_)
            · rw [if_pos q43] at K42
              refine r_iload_n dX11_held_130 rfl ?_
              exact K42
            · rw [if_neg q43] at K42
              refine r_iload dX11_held_125 rfl ?_
              refine r_goto (tgt := 131) dX11_held_127 rfl ?_
              exact K42
        refine r_icmp_ge dX11_held_100 rfl (fun q45 => ?_) (fun q45 => ?_)
        · rw [if_pos q45] at K41
          refine r_iconst dX11_held_107 (by decide) ?_
          exact K41
        · rw [if_neg q45] at K41
          refine r_iconst dX11_held_103 (by decide) ?_
          refine r_goto (tgt := 108) dX11_held_104 rfl ?_
          exact K41
theorem vn_easeOnce {e : Nat} {M : jM} {Q : Option jV → jM → Prop} {w : Int} (he : 6 ≤ e) (hS : Shp M)
  (h : Run (e + 1) mX11_easeOnce 4 [some (vR 468), some (vI w), some (vI (-1 : Int)), some (vI (0 : Int)), none] [] M Q) :
  Call (e + 1) mX11_easeOnce [vR 468, vI w] M Q := by
  show Run (e + 1) mX11_easeOnce 0 [some (vR 468), some (vI w), none, none, none] [] M Q
  refine r_iconst dX11_easeOnce_0 (by decide) ?_
  refine r_istore_n (ls2 := [some (vR 468), some (vI w), some (vI (-1 : Int)), none, none]) dX11_easeOnce_1 (Nat.le_of_ble_eq_true rfl) rfl ?_
  refine r_iconst dX11_easeOnce_2 (by decide) ?_
  refine r_istore_n (ls2 := [some (vR 468), some (vI w), some (vI (-1 : Int)), some (vI (0 : Int)), none]) dX11_easeOnce_3 (Nat.le_of_ble_eq_true rfl) rfl ?_
  exact h
theorem vn_easeOnce_4 {e : Nat} {M : jM} {Q : Option jV → jM → Prop} {w : Int} {l2 : Int} {l3 : Int} {l4 : Option jV}  (he : 6 ≤ e) (hS : Shp M)
  (h : (((w32 ((4 : Int) * (iv M 468 25))) ≤ l3) → (((l2 = (-1 : Int)) → (Q (some (vI (if l2 = (-1 : Int) then (0 : Int) else (1 : Int)))) M)) ∧ (¬ (l2 = (-1 : Int)) → (((0 ≤ (jdiv l2 (4 : Int)) ∧ (jdiv l2 (4 : Int)) < 8) ∧ (0 ≤ (jrem l2 (4 : Int)) ∧ (jrem l2 (4 : Int)) < 4)) ∧ (∀ N4 : jM, N4 = (si M 486 (20 * (jdiv l2 (4 : Int)) + 5 * (jrem l2 (4 : Int)) + (0 : Int)).toNat (0 : Int)) → Shp N4 → (Q (some (vI (if l2 = (-1 : Int) then (0 : Int) else (1 : Int)))) N4)))))) ∧ (¬ ((w32 ((4 : Int) * (iv M 468 25))) ≤ l3) → (((0 ≤ (jdiv l3 (4 : Int)) ∧ (jdiv l3 (4 : Int)) < 8) ∧ (0 ≤ (jrem l3 (4 : Int)) ∧ (jrem l3 (4 : Int)) < 4)) ∧ ((((if iv M 486 (20 * (jdiv l3 (4 : Int)) + 5 * (jrem l3 (4 : Int))).toNat = 1 ∧ iv M 486 (20 * (jdiv l3 (4 : Int)) + 5 * (jrem l3 (4 : Int)) + 1).toNat = w then (1 : Int) else (0 : Int)) = (0 : Int)) → (Run (e + 1) mX11_easeOnce 4 [some (vR 468), some (vI w), some (vI l2), some (vI (w32 (l3 + (1 : Int)))), some (vI (if iv M 486 (20 * (jdiv l3 (4 : Int)) + 5 * (jrem l3 (4 : Int))).toNat = 1 ∧ iv M 486 (20 * (jdiv l3 (4 : Int)) + 5 * (jrem l3 (4 : Int)) + 1).toNat = w then (1 : Int) else (0 : Int)))] [] M Q)) ∧ (¬ ((if iv M 486 (20 * (jdiv l3 (4 : Int)) + 5 * (jrem l3 (4 : Int))).toNat = 1 ∧ iv M 486 (20 * (jdiv l3 (4 : Int)) + 5 * (jrem l3 (4 : Int)) + 1).toNat = w then (1 : Int) else (0 : Int)) = (0 : Int)) → (((l2 = (-1 : Int)) → (Run (e + 1) mX11_easeOnce 4 [some (vR 468), some (vI w), some (vI l3), some (vI (w32 (l3 + (1 : Int)))), some (vI (if iv M 486 (20 * (jdiv l3 (4 : Int)) + 5 * (jrem l3 (4 : Int))).toNat = 1 ∧ iv M 486 (20 * (jdiv l3 (4 : Int)) + 5 * (jrem l3 (4 : Int)) + 1).toNat = w then (1 : Int) else (0 : Int)))] [] M Q)) ∧ (¬ (l2 = (-1 : Int)) → (Call e mX11_massOf [vR 468, vI (jdiv l3 (4 : Int)), vI (jrem l3 (4 : Int))] M (fun r12 M10 => ∃ z9 : Int, r12 = some (vL z9) ∧ Shp M10 ∧ (Call e mX11_massOf [vR 468, vI (jdiv l2 (4 : Int)), vI (jrem l2 (4 : Int))] M10 (fun r17 M15 => ∃ z14 : Int, r17 = some (vL z14) ∧ Shp M15 ∧ (Run (e + 1) mX11_easeOnce 4 [some (vR 468), some (vI w), some (vI (if (jcmp z9 z14) ≤ (0 : Int) then l2 else l3)), some (vI (w32 (l3 + (1 : Int)))), some (vI (if iv M 486 (20 * (jdiv l3 (4 : Int)) + 5 * (jrem l3 (4 : Int))).toNat = 1 ∧ iv M 486 (20 * (jdiv l3 (4 : Int)) + 5 * (jrem l3 (4 : Int)) + 1).toNat = w then (1 : Int) else (0 : Int)))] [] M15 Q)))))))))))) :
  Run (e + 1) mX11_easeOnce 4 [some (vR 468), some (vI w), some (vI l2), some (vI l3), l4] [] M Q := by
  refine r_iload_n dX11_easeOnce_4 rfl ?_
  refine r_iconst dX11_easeOnce_5 (by decide) ?_
  refine r_aload_n dX11_easeOnce_6 rfl ?_
  refine r_get0 dX11_easeOnce_7 kF11_287 (sh_o hS kk468 (by decide)) ?_
  refine r_imul dX11_easeOnce_10 ?_
  refine r_icmp_ge dX11_easeOnce_11 rfl (fun c1 => ?_) (fun c1 => ?_)
  · refine r_iload_n dX11_easeOnce_73 rfl ?_
    refine r_iconst dX11_easeOnce_74 (by decide) ?_
    refine r_icmp_eq dX11_easeOnce_75 rfl (fun c2 => ?_) (fun c2 => ?_)
    · refine r_iload_n dX11_easeOnce_90 rfl ?_
      refine r_iconst dX11_easeOnce_91 (by decide) ?_
      have K19 : Run (e + 1) mX11_easeOnce 100 [some (vR 468), some (vI w), some (vI l2), some (vI l3), l4] [vI (if l2 = (-1 : Int) then (0 : Int) else (1 : Int))] M Q := by
        exact r_zret dX11_easeOnce_100 rfl (by (repeat' split) <;> first | exact Or.inl rfl | exact Or.inr rfl) ((h.1 c1).1 c2)
      refine r_icmp_eq dX11_easeOnce_92 rfl (fun q20 => ?_) (fun q20 => ?_)
      · rw [if_pos q20] at K19
        refine r_iconst dX11_easeOnce_99 (by decide) ?_
        exact K19
      · rw [if_neg q20] at K19
        refine r_iconst dX11_easeOnce_95 (by decide) ?_
        refine r_goto (tgt := 100) dX11_easeOnce_96 rfl ?_
        exact K19
    · refine r_aload_n dX11_easeOnce_78 rfl ?_
      refine r_iload_n dX11_easeOnce_79 rfl ?_
      refine r_iconst dX11_easeOnce_80 (by decide) ?_
      refine r_idiv dX11_easeOnce_81 (by decide) ?_
      refine r_iload_n dX11_easeOnce_82 rfl ?_
      refine r_iconst dX11_easeOnce_83 (by decide) ?_
      refine r_irem dX11_easeOnce_84 (by decide) ?_
      refine r_iconst dX11_easeOnce_85 (by decide) ?_
      refine r_iconst dX11_easeOnce_86 (by decide) ?_
      have ob3 := ((h.1 c1).2 c2).1
      refine r_invV_v dX11_easeOnce_87 kM11_277 (by decide) (Nat.le_of_ble_eq_true rfl) rfl rfl (Nat.le_of_ble_eq_true rfl) (Nat.le_of_ble_eq_true rfl) (sh_o hS kk468 (by decide)) (m_set (by omega) hS ⟨ob3.1, ob3.2, by decide⟩ ⟨rfl, ?_⟩)
      have K23 : ∀ N4 : jM, N4 = (si M 486 (20 * (jdiv l2 (4 : Int)) + 5 * (jrem l2 (4 : Int)) + (0 : Int)).toNat (0 : Int)) → Run (e + 1) mX11_easeOnce 90 [some (vR 468), some (vI w), some (vI l2), some (vI l3), l4] [] N4 Q := by
        intro N4 hN22
        have sN5 : Shp N4 := by rw [hN22]; exact hS
        refine r_iload_n dX11_easeOnce_90 rfl ?_
        refine r_iconst dX11_easeOnce_91 (by decide) ?_
        have K24 : Run (e + 1) mX11_easeOnce 100 [some (vR 468), some (vI w), some (vI l2), some (vI l3), l4] [vI (if l2 = (-1 : Int) then (0 : Int) else (1 : Int))] N4 Q := by
          exact r_zret dX11_easeOnce_100 rfl (by (repeat' split) <;> first | exact Or.inl rfl | exact Or.inr rfl) (((h.1 c1).2 c2).2 N4 hN22 sN5)
        refine r_icmp_eq dX11_easeOnce_92 rfl (fun q25 => ?_) (fun q25 => ?_)
        · rw [if_pos q25] at K24
          refine r_iconst dX11_easeOnce_99 (by decide) ?_
          exact K24
        · rw [if_neg q25] at K24
          refine r_iconst dX11_easeOnce_95 (by decide) ?_
          refine r_goto (tgt := 100) dX11_easeOnce_96 rfl ?_
          exact K24
      exact K23 _ rfl
  · refine r_aload_n dX11_easeOnce_14 rfl ?_
    refine r_iload_n dX11_easeOnce_15 rfl ?_
    refine r_iconst dX11_easeOnce_16 (by decide) ?_
    refine r_idiv dX11_easeOnce_17 (by decide) ?_
    refine r_iload_n dX11_easeOnce_18 rfl ?_
    refine r_iconst dX11_easeOnce_19 (by decide) ?_
    refine r_irem dX11_easeOnce_20 (by decide) ?_
    refine r_iload_n dX11_easeOnce_21 rfl ?_
    have ob6 := (h.2 c1).1
    refine r_invV_i dX11_easeOnce_22 kM11_331 (by decide) (Nat.le_of_ble_eq_true rfl) rfl rfl (Nat.le_of_ble_eq_true rfl) (Nat.le_of_ble_eq_true rfl) (sh_o hS kk468 (by decide)) (m_isOf (by omega) hS ob6 ⟨_, rfl, ?_⟩)
    refine r_istore (ls2 := [some (vR 468), some (vI w), some (vI l2), some (vI l3), some (vI (if iv M 486 (20 * (jdiv l3 (4 : Int)) + 5 * (jrem l3 (4 : Int))).toNat = 1 ∧ iv M 486 (20 * (jdiv l3 (4 : Int)) + 5 * (jrem l3 (4 : Int)) + 1).toNat = w then (1 : Int) else (0 : Int)))]) dX11_easeOnce_25 (Nat.le_of_ble_eq_true rfl) rfl ?_
    refine r_iload dX11_easeOnce_27 rfl ?_
    refine r_if_eq dX11_easeOnce_29 rfl (fun c7 => ?_) (fun c7 => ?_)
    · refine r_iload_n dX11_easeOnce_65 rfl ?_
      refine r_istore_n (ls2 := [some (vR 468), some (vI w), some (vI l2), some (vI l3), some (vI (if iv M 486 (20 * (jdiv l3 (4 : Int)) + 5 * (jrem l3 (4 : Int))).toNat = 1 ∧ iv M 486 (20 * (jdiv l3 (4 : Int)) + 5 * (jrem l3 (4 : Int)) + 1).toNat = w then (1 : Int) else (0 : Int)))]) dX11_easeOnce_66 (Nat.le_of_ble_eq_true rfl) rfl ?_
      refine r_iinc (ls2 := [some (vR 468), some (vI w), some (vI l2), some (vI (w32 (l3 + (1 : Int)))), some (vI (if iv M 486 (20 * (jdiv l3 (4 : Int)) + 5 * (jrem l3 (4 : Int))).toNat = 1 ∧ iv M 486 (20 * (jdiv l3 (4 : Int)) + 5 * (jrem l3 (4 : Int)) + 1).toNat = w then (1 : Int) else (0 : Int)))]) dX11_easeOnce_67 rfl rfl ?_
      refine r_goto (tgt := 4) dX11_easeOnce_70 rfl ?_
      exact ((h.2 c1).2.1 c7)
    · refine r_iload_n dX11_easeOnce_32 rfl ?_
      refine r_iconst dX11_easeOnce_33 (by decide) ?_
      refine r_icmp_eq dX11_easeOnce_34 rfl (fun c8 => ?_) (fun c8 => ?_)
      · refine r_iload_n dX11_easeOnce_61 rfl ?_
        refine r_goto (tgt := 66) dX11_easeOnce_62 rfl ?_
        refine r_istore_n (ls2 := [some (vR 468), some (vI w), some (vI l3), some (vI l3), some (vI (if iv M 486 (20 * (jdiv l3 (4 : Int)) + 5 * (jrem l3 (4 : Int))).toNat = 1 ∧ iv M 486 (20 * (jdiv l3 (4 : Int)) + 5 * (jrem l3 (4 : Int)) + 1).toNat = w then (1 : Int) else (0 : Int)))]) dX11_easeOnce_66 (Nat.le_of_ble_eq_true rfl) rfl ?_
        refine r_iinc (ls2 := [some (vR 468), some (vI w), some (vI l3), some (vI (w32 (l3 + (1 : Int)))), some (vI (if iv M 486 (20 * (jdiv l3 (4 : Int)) + 5 * (jrem l3 (4 : Int))).toNat = 1 ∧ iv M 486 (20 * (jdiv l3 (4 : Int)) + 5 * (jrem l3 (4 : Int)) + 1).toNat = w then (1 : Int) else (0 : Int)))]) dX11_easeOnce_67 rfl rfl ?_
        refine r_goto (tgt := 4) dX11_easeOnce_70 rfl ?_
        exact (((h.2 c1).2.2 c7).1 c8)
      · refine r_aload_n dX11_easeOnce_37 rfl ?_
        refine r_iload_n dX11_easeOnce_38 rfl ?_
        refine r_iconst dX11_easeOnce_39 (by decide) ?_
        refine r_idiv dX11_easeOnce_40 (by decide) ?_
        refine r_iload_n dX11_easeOnce_41 rfl ?_
        refine r_iconst dX11_easeOnce_42 (by decide) ?_
        refine r_irem dX11_easeOnce_43 (by decide) ?_
        refine r_invV_l dX11_easeOnce_44 kM11_334 (by decide) (Nat.le_of_ble_eq_true rfl) rfl rfl (Nat.le_of_ble_eq_true rfl) (Nat.le_of_ble_eq_true rfl) (sh_o hS kk468 (by decide)) (Call.mono (((h.2 c1).2.2 c7).2 c8) (Nat.le_refl _) ?_)
        rintro _ M10 ⟨z9, rfl, s13, h11⟩
        refine ⟨_, rfl, ?_⟩
        refine r_aload_n dX11_easeOnce_47 rfl ?_
        refine r_iload_n dX11_easeOnce_48 rfl ?_
        refine r_iconst dX11_easeOnce_49 (by decide) ?_
        refine r_idiv dX11_easeOnce_50 (by decide) ?_
        refine r_iload_n dX11_easeOnce_51 rfl ?_
        refine r_iconst dX11_easeOnce_52 (by decide) ?_
        refine r_irem dX11_easeOnce_53 (by decide) ?_
        refine r_invV_l dX11_easeOnce_54 kM11_334 (by decide) (Nat.le_of_ble_eq_true rfl) rfl rfl (Nat.le_of_ble_eq_true rfl) (Nat.le_of_ble_eq_true rfl) (sh_o s13 kk468 (by decide)) (Call.mono h11 (Nat.le_refl _) ?_)
        rintro _ M15 ⟨z14, rfl, s18, h16⟩
        refine ⟨_, rfl, ?_⟩
        refine r_lcmp dX11_easeOnce_57 ?_
        have K27 : Run (e + 1) mX11_easeOnce 66 [some (vR 468), some (vI w), some (vI l2), some (vI l3), some (vI (if iv M 486 (20 * (jdiv l3 (4 : Int)) + 5 * (jrem l3 (4 : Int))).toNat = 1 ∧ iv M 486 (20 * (jdiv l3 (4 : Int)) + 5 * (jrem l3 (4 : Int)) + 1).toNat = w then (1 : Int) else (0 : Int)))] [vI (if (jcmp z9 z14) ≤ (0 : Int) then l2 else l3)] M15 Q := by
          refine r_istore_n (ls2 := [some (vR 468), some (vI w), some (vI (if (jcmp z9 z14) ≤ (0 : Int) then l2 else l3)), some (vI l3), some (vI (if iv M 486 (20 * (jdiv l3 (4 : Int)) + 5 * (jrem l3 (4 : Int))).toNat = 1 ∧ iv M 486 (20 * (jdiv l3 (4 : Int)) + 5 * (jrem l3 (4 : Int)) + 1).toNat = w then (1 : Int) else (0 : Int)))]) dX11_easeOnce_66 (Nat.le_of_ble_eq_true rfl) rfl ?_
          refine r_iinc (ls2 := [some (vR 468), some (vI w), some (vI (if (jcmp z9 z14) ≤ (0 : Int) then l2 else l3)), some (vI (w32 (l3 + (1 : Int)))), some (vI (if iv M 486 (20 * (jdiv l3 (4 : Int)) + 5 * (jrem l3 (4 : Int))).toNat = 1 ∧ iv M 486 (20 * (jdiv l3 (4 : Int)) + 5 * (jrem l3 (4 : Int)) + 1).toNat = w then (1 : Int) else (0 : Int)))]) dX11_easeOnce_67 rfl rfl ?_
          refine r_goto (tgt := 4) dX11_easeOnce_70 rfl ?_
          exact h16
        refine r_if_le dX11_easeOnce_58 rfl (fun q28 => ?_) (fun q28 => ?_)
        · rw [if_pos q28] at K27
          refine r_iload_n dX11_easeOnce_65 rfl ?_
          exact K27
        · rw [if_neg q28] at K27
          refine r_iload_n dX11_easeOnce_61 rfl ?_
          refine r_goto (tgt := 66) dX11_easeOnce_62 rfl ?_
          exact K27
theorem vn_eased {e : Nat} {M : jM} {Q : Option jV → jM → Prop} {w : Int} (he : 6 ≤ e) (hS : Shp M)
  (h : (((fIn w 0 (w32 (iv M 468 25 - 1))) ≠ (0 : Int)) → (Call e mX11_putAside [vR 468, vI (0 : Int)] M (fun r5 M3 => r5 = none ∧ Shp M3 ∧ (Run (e + 1) mX11_eased 17 [some (vR 468), some (vI w), some (vI (0 : Int))] [] M3 Q)))) ∧ (¬ ((fIn w 0 (w32 (iv M 468 25 - 1))) ≠ (0 : Int)) → (Q (some (vI (-1 : Int))) M))) :
  Call (e + 1) mX11_eased [vR 468, vI w] M Q := by
  show Run (e + 1) mX11_eased 0 [some (vR 468), some (vI w), none] [] M Q
  refine r_aload_n dX11_eased_0 rfl ?_
  refine r_iload_n dX11_eased_1 rfl ?_
  refine r_invV_i dX11_eased_2 kM11_309 (by decide) (Nat.le_of_ble_eq_true rfl) rfl rfl (Nat.le_of_ble_eq_true rfl) (Nat.le_of_ble_eq_true rfl) (sh_o hS kk468 (by decide)) (m_isPerson (by omega) hS ⟨_, rfl, ?_⟩)
  refine r_if_ne dX11_eased_5 rfl (fun c1 => ?_) (fun c1 => ?_)
  · refine r_aload_n dX11_eased_10 rfl ?_
    refine r_iconst dX11_eased_11 (by decide) ?_
    refine r_invV_v dX11_eased_12 kM11_404 (by decide) (Nat.le_of_ble_eq_true rfl) rfl rfl (Nat.le_of_ble_eq_true rfl) (Nat.le_of_ble_eq_true rfl) (sh_o hS kk468 (by decide)) (Call.mono (h.1 c1) (Nat.le_refl _) ?_)
    rintro _ M3 ⟨rfl, s6, h4⟩
    refine ⟨rfl, ?_⟩
    refine r_iconst dX11_eased_15 (by decide) ?_
    refine r_istore_n (ls2 := [some (vR 468), some (vI w), some (vI (0 : Int))]) dX11_eased_16 (Nat.le_of_ble_eq_true rfl) rfl ?_
    exact h4
  · refine r_iconst dX11_eased_8 (by decide) ?_
    exact r_iret dX11_eased_9 rfl (h.2 c1)
theorem vn_eased_17 {e : Nat} {M : jM} {Q : Option jV → jM → Prop} {w : Int} {l2 : Int}  (he : 6 ≤ e) (hS : Shp M)
  (h : Call e mX11_doesSink [vR 468, vI w] M (fun r10 M8 => ∃ z7 : Int, r10 = some (vI z7) ∧ Shp M8 ∧ (((z7 = (0 : Int)) → (Call e mX11_takeBack [vR 468, vI (0 : Int)] M8 (fun r16 M14 => r16 = none ∧ Shp M14 ∧ (Q (some (vI l2)) M14)))) ∧ (¬ (z7 = (0 : Int)) → (Call e mX11_easeOnce [vR 468, vI w] M8 (fun r21 M19 => ∃ z18 : Int, r21 = some (vI z18) ∧ Shp M19 ∧ (((z18 = (0 : Int)) → (Call e mX11_takeBack [vR 468, vI (0 : Int)] M19 (fun r27 M25 => r27 = none ∧ Shp M25 ∧ (Q (some (vI l2)) M25)))) ∧ (¬ (z18 = (0 : Int)) → (Run (e + 1) mX11_eased 17 [some (vR 468), some (vI w), some (vI (w32 (l2 + (1 : Int))))] [] M19 Q))))))))) :
  Run (e + 1) mX11_eased 17 [some (vR 468), some (vI w), some (vI l2)] [] M Q := by
  refine r_aload_n dX11_eased_17 rfl ?_
  refine r_iload_n dX11_eased_18 rfl ?_
  refine r_invV_i dX11_eased_19 kM11_349 (by decide) (Nat.le_of_ble_eq_true rfl) rfl rfl (Nat.le_of_ble_eq_true rfl) (Nat.le_of_ble_eq_true rfl) (sh_o hS kk468 (by decide)) (Call.mono h (Nat.le_refl _) ?_)
  rintro _ M8 ⟨z7, rfl, s11, h9⟩
  refine ⟨_, rfl, ?_⟩
  refine r_if_eq dX11_eased_22 rfl (fun c12 => ?_) (fun c12 => ?_)
  · refine r_aload_n dX11_eased_39 rfl ?_
    refine r_iconst dX11_eased_40 (by decide) ?_
    refine r_invV_v dX11_eased_41 kM11_407 (by decide) (Nat.le_of_ble_eq_true rfl) rfl rfl (Nat.le_of_ble_eq_true rfl) (Nat.le_of_ble_eq_true rfl) (sh_o s11 kk468 (by decide)) (Call.mono (h9.1 c12) (Nat.le_refl _) ?_)
    rintro _ M14 ⟨rfl, s17, h15⟩
    refine ⟨rfl, ?_⟩
    refine r_iload_n dX11_eased_44 rfl ?_
    exact r_iret dX11_eased_45 rfl h15
  · refine r_aload_n dX11_eased_25 rfl ?_
    refine r_iload_n dX11_eased_26 rfl ?_
    refine r_invV_i dX11_eased_27 kM11_428 (by decide) (Nat.le_of_ble_eq_true rfl) rfl rfl (Nat.le_of_ble_eq_true rfl) (Nat.le_of_ble_eq_true rfl) (sh_o s11 kk468 (by decide)) (Call.mono (h9.2 c12) (Nat.le_refl _) ?_)
    rintro _ M19 ⟨z18, rfl, s22, h20⟩
    refine ⟨_, rfl, ?_⟩
    refine r_if_eq dX11_eased_30 rfl (fun c23 => ?_) (fun c23 => ?_)
    · refine r_aload_n dX11_eased_39 rfl ?_
      refine r_iconst dX11_eased_40 (by decide) ?_
      refine r_invV_v dX11_eased_41 kM11_407 (by decide) (Nat.le_of_ble_eq_true rfl) rfl rfl (Nat.le_of_ble_eq_true rfl) (Nat.le_of_ble_eq_true rfl) (sh_o s22 kk468 (by decide)) (Call.mono (h20.1 c23) (Nat.le_refl _) ?_)
      rintro _ M25 ⟨rfl, s28, h26⟩
      refine ⟨rfl, ?_⟩
      refine r_iload_n dX11_eased_44 rfl ?_
      exact r_iret dX11_eased_45 rfl h26
    · refine r_iinc (ls2 := [some (vR 468), some (vI w), some (vI (w32 (l2 + (1 : Int))))]) dX11_eased_33 rfl rfl ?_
      refine r_goto (tgt := 17) dX11_eased_36 rfl ?_
      exact (h20.2 c23)
theorem vn_seen {e : Nat} {M : jM} {Q : Option jV → jM → Prop} {p : Int} {n : Int} {v : Int} {mo : Int} (he : 6 ≤ e) (hS : Shp M)
  (h : (((fIn p 0 (w32 (iv M 468 25 - 1))) = (0 : Int)) → (Q (some (vI (-1 : Int))) M)) ∧ (¬ ((fIn p 0 (w32 (iv M 468 25 - 1))) = (0 : Int)) → ((((fIn n (0 : Int) (8 : Int)) = (0 : Int)) → (Q (some (vI (-1 : Int))) M)) ∧ (¬ ((fIn n (0 : Int) (8 : Int)) = (0 : Int)) → ((((fIn v (0 : Int) (9999 : Int)) = (0 : Int)) → (Q (some (vI (-1 : Int))) M)) ∧ (¬ ((fIn v (0 : Int) (9999 : Int)) = (0 : Int)) → ((((iv M 468 42) ≠ (10 : Int)) → ((0 ≤ (iv M 468 42) ∧ (iv M 468 42) < 10) ∧ (∀ N6 : jM, N6 = (si M 492 (iv M 468 42).toNat p) → Shp N6 → ((0 ≤ (iv N6 468 42) ∧ (iv N6 468 42) < 10) ∧ (∀ N9 : jM, N9 = (si N6 493 (iv N6 468 42).toNat n) → Shp N9 → ((0 ≤ (iv N9 468 42) ∧ (iv N9 468 42) < 10) ∧ (∀ N12 : jM, N12 = (si N9 494 (iv N9 468 42).toNat v) → Shp N12 → (((0 ≤ (iv N12 468 42) ∧ (iv N12 468 42) < 10) ∧ (mo = 0 ∨ mo = 1)) ∧ (∀ N15 : jM, N15 = (si N12 495 (iv N12 468 42).toNat mo) → Shp N15 → (∀ N17 : jM, N17 = (si N15 468 42 (w32 ((iv N15 468 42) + (1 : Int)))) → Shp N17 → (Q (some (vI (iv N17 468 42))) N17))))))))))) ∧ (¬ ((iv M 468 42) ≠ (10 : Int)) → (Q (some (vI (-1 : Int))) M))))))))) :
  Call (e + 1) mX11_seen [vR 468, vI p, vI n, vI v, vI mo] M Q := by
  show Run (e + 1) mX11_seen 0 [some (vR 468), some (vI p), some (vI n), some (vI v), some (vI mo)] [] M Q
  refine r_aload_n dX11_seen_0 rfl ?_
  refine r_iload_n dX11_seen_1 rfl ?_
  refine r_invV_i dX11_seen_2 kM11_309 (by decide) (Nat.le_of_ble_eq_true rfl) rfl rfl (Nat.le_of_ble_eq_true rfl) (Nat.le_of_ble_eq_true rfl) (sh_o hS kk468 (by decide)) (m_isPerson (by omega) hS ⟨_, rfl, ?_⟩)
  refine r_if_eq dX11_seen_5 rfl (fun c1 => ?_) (fun c1 => ?_)
  · refine r_iconst dX11_seen_38 (by decide) ?_
    exact r_iret dX11_seen_39 rfl (h.1 c1)
  · refine r_iload_n dX11_seen_8 rfl ?_
    refine r_iconst dX11_seen_9 (by decide) ?_
    refine r_bipush dX11_seen_10 (by decide) ?_
    refine r_invS_i dX11_seen_12 (by decide) kXn11_224 kM11_224 (by decide) (Nat.le_of_ble_eq_true rfl) rfl rfl (Nat.le_of_ble_eq_true rfl) (Nat.le_of_ble_eq_true rfl) (m_in (by omega) hS ⟨_, rfl, ?_⟩)
    refine r_if_eq dX11_seen_15 rfl (fun c2 => ?_) (fun c2 => ?_)
    · refine r_iconst dX11_seen_38 (by decide) ?_
      exact r_iret dX11_seen_39 rfl ((h.2 c1).1 c2)
    · refine r_iload_n dX11_seen_18 rfl ?_
      refine r_iconst dX11_seen_19 (by decide) ?_
      refine r_sipush dX11_seen_20 (by decide) ?_
      refine r_invS_i dX11_seen_23 (by decide) kXn11_224 kM11_224 (by decide) (Nat.le_of_ble_eq_true rfl) rfl rfl (Nat.le_of_ble_eq_true rfl) (Nat.le_of_ble_eq_true rfl) (m_in (by omega) hS ⟨_, rfl, ?_⟩)
      refine r_if_eq dX11_seen_26 rfl (fun c3 => ?_) (fun c3 => ?_)
      · refine r_iconst dX11_seen_38 (by decide) ?_
        exact r_iret dX11_seen_39 rfl (((h.2 c1).2 c2).1 c3)
      · refine r_aload_n dX11_seen_29 rfl ?_
        refine r_get0 dX11_seen_30 kF11_293 (sh_o hS kk468 (by decide)) ?_
        refine r_bipush dX11_seen_33 (by decide) ?_
        refine r_icmp_ne dX11_seen_35 rfl (fun c4 => ?_) (fun c4 => ?_)
        · refine r_aload_n dX11_seen_40 rfl ?_
          refine r_getS (v := 492) dX11_seen_41 kF11_87 (sh_o hS kk468 (by decide)) (sh_f hS rr468_38 (by decide)) ?_
          refine r_aload_n dX11_seen_44 rfl ?_
          refine r_get0 dX11_seen_45 kF11_293 (sh_o hS kk468 (by decide)) ?_
          refine r_iload_n dX11_seen_48 rfl ?_
          have ob5 := ((((h.2 c1).2 c2).2 c3).1 c4).1
          refine r_iastore dX11_seen_49 ⟨jro_ix (sh_r hS kk492 (by decide)) ob5, (by decide)⟩ ?_
          have K20 : ∀ N6 : jM, N6 = (si M 492 (iv M 468 42).toNat p) → Run (e + 1) mX11_seen 50 [some (vR 468), some (vI p), some (vI n), some (vI v), some (vI mo)] [] N6 Q := by
            intro N6 hN19
            have sN7 : Shp N6 := by rw [hN19]; exact hS
            refine r_aload_n dX11_seen_50 rfl ?_
            refine r_getS (v := 493) dX11_seen_51 kF11_90 (sh_o sN7 kk468 (by decide)) (sh_f sN7 rr468_39 (by decide)) ?_
            refine r_aload_n dX11_seen_54 rfl ?_
            refine r_get0 dX11_seen_55 kF11_293 (sh_o sN7 kk468 (by decide)) ?_
            refine r_iload_n dX11_seen_58 rfl ?_
            have ob8 := (((((h.2 c1).2 c2).2 c3).1 c4).2 N6 hN19 sN7).1
            refine r_iastore dX11_seen_59 ⟨jro_ix (sh_r sN7 kk493 (by decide)) ob8, (by decide)⟩ ?_
            have K22 : ∀ N9 : jM, N9 = (si N6 493 (iv N6 468 42).toNat n) → Run (e + 1) mX11_seen 60 [some (vR 468), some (vI p), some (vI n), some (vI v), some (vI mo)] [] N9 Q := by
              intro N9 hN21
              have sN10 : Shp N9 := by rw [hN21]; exact sN7
              refine r_aload_n dX11_seen_60 rfl ?_
              refine r_getS (v := 494) dX11_seen_61 kF11_93 (sh_o sN10 kk468 (by decide)) (sh_f sN10 rr468_40 (by decide)) ?_
              refine r_aload_n dX11_seen_64 rfl ?_
              refine r_get0 dX11_seen_65 kF11_293 (sh_o sN10 kk468 (by decide)) ?_
              refine r_iload_n dX11_seen_68 rfl ?_
              have ob11 := ((((((h.2 c1).2 c2).2 c3).1 c4).2 N6 hN19 sN7).2 N9 hN21 sN10).1
              refine r_iastore dX11_seen_69 ⟨jro_ix (sh_r sN10 kk494 (by decide)) ob11, (by decide)⟩ ?_
              have K24 : ∀ N12 : jM, N12 = (si N9 494 (iv N9 468 42).toNat v) → Run (e + 1) mX11_seen 70 [some (vR 468), some (vI p), some (vI n), some (vI v), some (vI mo)] [] N12 Q := by
                intro N12 hN23
                have sN13 : Shp N12 := by rw [hN23]; exact sN10
                refine r_aload_n dX11_seen_70 rfl ?_
                refine r_getS (v := 495) dX11_seen_71 kF11_96 (sh_o sN13 kk468 (by decide)) (sh_f sN13 rr468_41 (by decide)) ?_
                refine r_aload_n dX11_seen_74 rfl ?_
                refine r_get0 dX11_seen_75 kF11_293 (sh_o sN13 kk468 (by decide)) ?_
                refine r_iload dX11_seen_78 rfl ?_
                have ob14 := (((((((h.2 c1).2 c2).2 c3).1 c4).2 N6 hN19 sN7).2 N9 hN21 sN10).2 N12 hN23 sN13).1
                refine r_bastore dX11_seen_80 ⟨jro_ix (sh_r sN13 kk495 (by decide)) ob14.1, (by decide)⟩ ob14.2 ?_
                have K26 : ∀ N15 : jM, N15 = (si N12 495 (iv N12 468 42).toNat mo) → Run (e + 1) mX11_seen 81 [some (vR 468), some (vI p), some (vI n), some (vI v), some (vI mo)] [] N15 Q := by
                  intro N15 hN25
                  have sN16 : Shp N15 := by rw [hN25]; exact sN13
                  refine r_aload_n dX11_seen_81 rfl ?_
                  refine r_dupR dX11_seen_82 ?_
                  refine r_get0 dX11_seen_83 kF11_293 (sh_o sN16 kk468 (by decide)) ?_
                  refine r_iconst dX11_seen_86 (by decide) ?_
                  refine r_iadd dX11_seen_87 ?_
                  refine r_put0 dX11_seen_88 kF11_293 (sh_o sN16 kk468 (by decide)) (Or.inl rfl) ?_
                  have K28 : ∀ N17 : jM, N17 = (si N15 468 42 (w32 ((iv N15 468 42) + (1 : Int)))) → Run (e + 1) mX11_seen 91 [some (vR 468), some (vI p), some (vI n), some (vI v), some (vI mo)] [] N17 Q := by
                    intro N17 hN27
                    have sN18 : Shp N17 := by rw [hN27]; exact sN16
                    refine r_aload_n dX11_seen_91 rfl ?_
                    refine r_get0 dX11_seen_92 kF11_293 (sh_o sN18 kk468 (by decide)) ?_
                    exact r_iret dX11_seen_95 rfl (((((((((h.2 c1).2 c2).2 c3).1 c4).2 N6 hN19 sN7).2 N9 hN21 sN10).2 N12 hN23 sN13).2 N15 hN25 sN16) N17 hN27 sN18)
                  exact K28 _ rfl
                exact K26 _ rfl
              exact K24 _ rfl
            exact K22 _ rfl
          exact K20 _ rfl
        · refine r_iconst dX11_seen_38 (by decide) ?_
          exact r_iret dX11_seen_39 rfl ((((h.2 c1).2 c2).2 c3).2 c4)
theorem vn_isCode {e : Nat} {M : jM} {Q : Option jV → jM → Prop} {cd : Int} (he : 8 ≤ e) (hS : Shp M)
  (h : (((if fIn (jdiv cd (1000 : Int)) 0 (w32 (iv M 468 25 - 1)) = 1 ∧ fIn (jrem (jdiv cd (100 : Int)) (10 : Int)) 0 (w32 (iv M 468 25 - 1)) = 1 ∧ (jdiv cd (1000 : Int)) ≠ (jrem (jdiv cd (100 : Int)) (10 : Int)) then (1 : Int) else (0 : Int)) = (0 : Int)) → (Q (some (vI (0 : Int))) M)) ∧ (¬ ((if fIn (jdiv cd (1000 : Int)) 0 (w32 (iv M 468 25 - 1)) = 1 ∧ fIn (jrem (jdiv cd (100 : Int)) (10 : Int)) 0 (w32 (iv M 468 25 - 1)) = 1 ∧ (jdiv cd (1000 : Int)) ≠ (jrem (jdiv cd (100 : Int)) (10 : Int)) then (1 : Int) else (0 : Int)) = (0 : Int)) → ((((3 : Int) ≤ (jrem (jdiv cd (10 : Int)) (10 : Int))) → (Q (some (vI (0 : Int))) M)) ∧ (¬ ((3 : Int) ≤ (jrem (jdiv cd (10 : Int)) (10 : Int))) → ((((jrem cd (10 : Int)) ≤ (0 : Int)) → (Q (some (vI (0 : Int))) M)) ∧ (¬ ((jrem cd (10 : Int)) ≤ (0 : Int)) → ((0 ≤ (jdiv cd (1000 : Int)) ∧ (jdiv cd (1000 : Int)) < 8) ∧ (∀ v5 : Int, v5 = ((fGm (iv M 483 (3 * (jdiv cd (1000 : Int)) + 2).toNat) (jrem (jdiv cd (10 : Int)) (10 : Int)))) → (Q (some (vI (if v5 = (0 : Int) then (0 : Int) else (1 : Int)))) M))))))))) :
  Call (e + 1) mX11_isCode [vR 468, vI cd] M Q := by
  show Run (e + 1) mX11_isCode 0 [some (vR 468), some (vI cd), none, none, none] [] M Q
  refine r_iload_n dX11_isCode_0 rfl ?_
  refine r_sipush dX11_isCode_1 (by decide) ?_
  refine r_idiv dX11_isCode_4 (by decide) ?_
  refine r_istore_n (ls2 := [some (vR 468), some (vI cd), some (vI (jdiv cd (1000 : Int))), none, none]) dX11_isCode_5 (Nat.le_of_ble_eq_true rfl) rfl ?_
  refine r_iload_n dX11_isCode_6 rfl ?_
  refine r_bipush dX11_isCode_7 (by decide) ?_
  refine r_idiv dX11_isCode_9 (by decide) ?_
  refine r_bipush dX11_isCode_10 (by decide) ?_
  refine r_irem dX11_isCode_12 (by decide) ?_
  refine r_istore_n (ls2 := [some (vR 468), some (vI cd), some (vI (jdiv cd (1000 : Int))), some (vI (jrem (jdiv cd (100 : Int)) (10 : Int))), none]) dX11_isCode_13 (Nat.le_of_ble_eq_true rfl) rfl ?_
  refine r_iload_n dX11_isCode_14 rfl ?_
  refine r_bipush dX11_isCode_15 (by decide) ?_
  refine r_idiv dX11_isCode_17 (by decide) ?_
  refine r_bipush dX11_isCode_18 (by decide) ?_
  refine r_irem dX11_isCode_20 (by decide) ?_
  refine r_istore (ls2 := [some (vR 468), some (vI cd), some (vI (jdiv cd (1000 : Int))), some (vI (jrem (jdiv cd (100 : Int)) (10 : Int))), some (vI (jrem (jdiv cd (10 : Int)) (10 : Int)))]) dX11_isCode_21 (Nat.le_of_ble_eq_true rfl) rfl ?_
  refine r_aload_n dX11_isCode_23 rfl ?_
  refine r_iload_n dX11_isCode_24 rfl ?_
  refine r_iload_n dX11_isCode_25 rfl ?_
  refine r_invV_i dX11_isCode_26 kM11_431 (by decide) (Nat.le_of_ble_eq_true rfl) rfl rfl (Nat.le_of_ble_eq_true rfl) (Nat.le_of_ble_eq_true rfl) (sh_o hS kk468 (by decide)) (m_areTwo (by omega) hS ⟨_, rfl, ?_⟩)
  refine r_if_eq dX11_isCode_29 rfl (fun c1 => ?_) (fun c1 => ?_)
  · refine r_iconst dX11_isCode_59 (by decide) ?_
    exact r_zret dX11_isCode_60 rfl (by decide) (h.1 c1)
  · refine r_iload dX11_isCode_32 rfl ?_
    refine r_iconst dX11_isCode_34 (by decide) ?_
    refine r_icmp_ge dX11_isCode_35 rfl (fun c2 => ?_) (fun c2 => ?_)
    · refine r_iconst dX11_isCode_59 (by decide) ?_
      exact r_zret dX11_isCode_60 rfl (by decide) ((h.2 c1).1 c2)
    · refine r_iload_n dX11_isCode_38 rfl ?_
      refine r_bipush dX11_isCode_39 (by decide) ?_
      refine r_irem dX11_isCode_41 (by decide) ?_
      refine r_if_le dX11_isCode_42 rfl (fun c3 => ?_) (fun c3 => ?_)
      · refine r_iconst dX11_isCode_59 (by decide) ?_
        exact r_zret dX11_isCode_60 rfl (by decide) (((h.2 c1).2 c2).1 c3)
      · refine r_aload_n dX11_isCode_45 rfl ?_
        refine r_iload_n dX11_isCode_46 rfl ?_
        refine r_iload dX11_isCode_47 rfl ?_
        have ob4 := (((h.2 c1).2 c2).2 c3).1
        refine r_invV_i dX11_isCode_49 kM11_375 (by decide) (Nat.le_of_ble_eq_true rfl) rfl rfl (Nat.le_of_ble_eq_true rfl) (Nat.le_of_ble_eq_true rfl) (sh_o hS kk468 (by decide)) (m_goesTo (by omega) hS ob4 ⟨_, rfl, ?_⟩)
        have K7 : ∀ v5 : Int, v5 = ((fGm (iv M 483 (3 * (jdiv cd (1000 : Int)) + 2).toNat) (jrem (jdiv cd (10 : Int)) (10 : Int)))) → Run (e + 1) mX11_isCode 52 [some (vR 468), some (vI cd), some (vI (jdiv cd (1000 : Int))), some (vI (jrem (jdiv cd (100 : Int)) (10 : Int))), some (vI (jrem (jdiv cd (10 : Int)) (10 : Int)))] [vI v5] M Q := by
          intro v5 hv6
          have K8 : Run (e + 1) mX11_isCode 60 [some (vR 468), some (vI cd), some (vI (jdiv cd (1000 : Int))), some (vI (jrem (jdiv cd (100 : Int)) (10 : Int))), some (vI (jrem (jdiv cd (10 : Int)) (10 : Int)))] [vI (if v5 = (0 : Int) then (0 : Int) else (1 : Int))] M Q := by
            exact r_zret dX11_isCode_60 rfl (by (repeat' split) <;> first | exact Or.inl rfl | exact Or.inr rfl) ((((h.2 c1).2 c2).2 c3).2 v5 hv6)
          refine r_if_eq dX11_isCode_52 rfl (fun q9 => ?_) (fun q9 => ?_)
          · rw [if_pos q9] at K8
            refine r_iconst dX11_isCode_59 (by decide) ?_
            exact K8
          · rw [if_neg q9] at K8
            refine r_iconst dX11_isCode_55 (by decide) ?_
            refine r_goto (tgt := 60) dX11_isCode_56 rfl ?_
            exact K8
        exact K7 _ rfl
theorem vn_layTold {e : Nat} {M : jM} {Q : Option jV → jM → Prop}  (he : 6 ≤ e) (hS : Shp M)
  (h : Run (e + 1) mX11_layTold 2 [some (vR 468), some (vI (0 : Int))] [] M Q) :
  Call (e + 1) mX11_layTold [vR 468] M Q := by
  show Run (e + 1) mX11_layTold 0 [some (vR 468), none] [] M Q
  refine r_iconst dX11_layTold_0 (by decide) ?_
  refine r_istore_n (ls2 := [some (vR 468), some (vI (0 : Int))]) dX11_layTold_1 (Nat.le_of_ble_eq_true rfl) rfl ?_
  exact h
theorem vn_layTold_2 {e : Nat} {M : jM} {Q : Option jV → jM → Prop} {l1 : Int}  (he : 6 ≤ e) (hS : Shp M)
  (h : (((171 : Int) ≤ l1) → (Run (e + 1) mX11_layTold 24 [some (vR 468), some (vI (0 : Int))] [] M Q)) ∧ (¬ ((171 : Int) ≤ l1) → ((0 ≤ l1 ∧ l1 < 352) ∧ (∀ N3 : jM, N3 = (si M 486 (l1).toNat (0 : Int)) → Shp N3 → (Run (e + 1) mX11_layTold 2 [some (vR 468), some (vI (w32 (l1 + (1 : Int))))] [] N3 Q))))) :
  Run (e + 1) mX11_layTold 2 [some (vR 468), some (vI l1)] [] M Q := by
  refine r_iload_n dX11_layTold_2 rfl ?_
  refine r_sipush dX11_layTold_3 (by decide) ?_
  refine r_icmp_ge dX11_layTold_6 rfl (fun c1 => ?_) (fun c1 => ?_)
  · refine r_iconst dX11_layTold_22 (by decide) ?_
    refine r_istore_n (ls2 := [some (vR 468), some (vI (0 : Int))]) dX11_layTold_23 (Nat.le_of_ble_eq_true rfl) rfl ?_
    exact (h.1 c1)
  · refine r_aload_n dX11_layTold_9 rfl ?_
    refine r_getS (v := 486) dX11_layTold_10 kF11_61 (sh_o hS kk468 (by decide)) (sh_f hS rr468_28 (by decide)) ?_
    refine r_iload_n dX11_layTold_13 rfl ?_
    refine r_iconst dX11_layTold_14 (by decide) ?_
    have ob2 := (h.2 c1).1
    refine r_iastore dX11_layTold_15 ⟨jro_ix (sh_r hS kk486 (by decide)) ob2, (by decide)⟩ ?_
    have K6 : ∀ N3 : jM, N3 = (si M 486 (l1).toNat (0 : Int)) → Run (e + 1) mX11_layTold 16 [some (vR 468), some (vI l1)] [] N3 Q := by
      intro N3 hN5
      have sN4 : Shp N3 := by rw [hN5]; exact hS
      refine r_iinc (ls2 := [some (vR 468), some (vI (w32 (l1 + (1 : Int))))]) dX11_layTold_16 rfl rfl ?_
      refine r_goto (tgt := 2) dX11_layTold_19 rfl ?_
      exact ((h.2 c1).2 N3 hN5 sN4)
    exact K6 _ rfl
theorem vn_layTold_24 {e : Nat} {M : jM} {Q : Option jV → jM → Prop} {l1 : Int}  (he : 6 ≤ e) (hS : Shp M)
  (h : (((iv M 468 26) ≤ l1) → (Run (e + 1) mX11_layTold 84 [some (vR 468), some (vI (0 : Int))] [] M Q)) ∧ (¬ ((iv M 468 26) ≤ l1) → ((0 ≤ (w32 ((w32 ((4 : Int) * l1)) + (0 : Int))) ∧ (w32 ((w32 ((4 : Int) * l1)) + (0 : Int))) < 48) ∧ ((0 ≤ (w32 ((w32 ((4 : Int) * l1)) + (1 : Int))) ∧ (w32 ((w32 ((4 : Int) * l1)) + (1 : Int))) < 48) ∧ ((0 ≤ (w32 ((w32 ((4 : Int) * l1)) + (2 : Int))) ∧ (w32 ((w32 ((4 : Int) * l1)) + (2 : Int))) < 48) ∧ ((0 ≤ (w32 ((w32 ((4 : Int) * l1)) + (3 : Int))) ∧ (w32 ((w32 ((4 : Int) * l1)) + (3 : Int))) < 48) ∧ (Call e mX11_putThought [vR 468, vI (iv M 484 (w32 ((w32 ((4 : Int) * l1)) + (0 : Int))).toNat), vI (iv M 484 (w32 ((w32 ((4 : Int) * l1)) + (1 : Int))).toNat), vI (iv M 484 (w32 ((w32 ((4 : Int) * l1)) + (2 : Int))).toNat), vI (iv M 484 (w32 ((w32 ((4 : Int) * l1)) + (3 : Int))).toNat)] M (fun r15 M13 => r15 = none ∧ Shp M13 ∧ (Run (e + 1) mX11_layTold 24 [some (vR 468), some (vI (w32 (l1 + (1 : Int))))] [] M13 Q))))))))) :
  Run (e + 1) mX11_layTold 24 [some (vR 468), some (vI l1)] [] M Q := by
  refine r_iload_n dX11_layTold_24 rfl ?_
  refine r_aload_n dX11_layTold_25 rfl ?_
  refine r_get0 dX11_layTold_26 kF11_281 (sh_o hS kk468 (by decide)) ?_
  refine r_icmp_ge dX11_layTold_29 rfl (fun c7 => ?_) (fun c7 => ?_)
  · refine r_iconst dX11_layTold_82 (by decide) ?_
    refine r_istore_n (ls2 := [some (vR 468), some (vI (0 : Int))]) dX11_layTold_83 (Nat.le_of_ble_eq_true rfl) rfl ?_
    exact (h.1 c7)
  · refine r_aload_n dX11_layTold_32 rfl ?_
    refine r_aload_n dX11_layTold_33 rfl ?_
    refine r_getS (v := 484) dX11_layTold_34 kF11_55 (sh_o hS kk468 (by decide)) (sh_f hS rr468_24 (by decide)) ?_
    refine r_iconst dX11_layTold_37 (by decide) ?_
    refine r_iload_n dX11_layTold_38 rfl ?_
    refine r_imul dX11_layTold_39 ?_
    refine r_iconst dX11_layTold_40 (by decide) ?_
    refine r_iadd dX11_layTold_41 ?_
    have ob8 := (h.2 c7).1
    refine r_iaload dX11_layTold_42 (jro_ix (sh_r hS kk484 (by decide)) ob8) ?_
    refine r_aload_n dX11_layTold_43 rfl ?_
    refine r_getS (v := 484) dX11_layTold_44 kF11_55 (sh_o hS kk468 (by decide)) (sh_f hS rr468_24 (by decide)) ?_
    refine r_iconst dX11_layTold_47 (by decide) ?_
    refine r_iload_n dX11_layTold_48 rfl ?_
    refine r_imul dX11_layTold_49 ?_
    refine r_iconst dX11_layTold_50 (by decide) ?_
    refine r_iadd dX11_layTold_51 ?_
    have ob9 := (h.2 c7).2.1
    refine r_iaload dX11_layTold_52 (jro_ix (sh_r hS kk484 (by decide)) ob9) ?_
    refine r_aload_n dX11_layTold_53 rfl ?_
    refine r_getS (v := 484) dX11_layTold_54 kF11_55 (sh_o hS kk468 (by decide)) (sh_f hS rr468_24 (by decide)) ?_
    refine r_iconst dX11_layTold_57 (by decide) ?_
    refine r_iload_n dX11_layTold_58 rfl ?_
    refine r_imul dX11_layTold_59 ?_
    refine r_iconst dX11_layTold_60 (by decide) ?_
    refine r_iadd dX11_layTold_61 ?_
    have ob10 := (h.2 c7).2.2.1
    refine r_iaload dX11_layTold_62 (jro_ix (sh_r hS kk484 (by decide)) ob10) ?_
    refine r_aload_n dX11_layTold_63 rfl ?_
    refine r_getS (v := 484) dX11_layTold_64 kF11_55 (sh_o hS kk468 (by decide)) (sh_f hS rr468_24 (by decide)) ?_
    refine r_iconst dX11_layTold_67 (by decide) ?_
    refine r_iload_n dX11_layTold_68 rfl ?_
    refine r_imul dX11_layTold_69 ?_
    refine r_iconst dX11_layTold_70 (by decide) ?_
    refine r_iadd dX11_layTold_71 ?_
    have ob11 := (h.2 c7).2.2.2.1
    refine r_iaload dX11_layTold_72 (jro_ix (sh_r hS kk484 (by decide)) ob11) ?_
    refine r_invV_v dX11_layTold_73 kM11_284 (by decide) (Nat.le_of_ble_eq_true rfl) rfl rfl (Nat.le_of_ble_eq_true rfl) (Nat.le_of_ble_eq_true rfl) (sh_o hS kk468 (by decide)) (Call.mono (h.2 c7).2.2.2.2 (Nat.le_refl _) ?_)
    rintro _ M13 ⟨rfl, s16, h14⟩
    refine ⟨rfl, ?_⟩
    refine r_iinc (ls2 := [some (vR 468), some (vI (w32 (l1 + (1 : Int))))]) dX11_layTold_76 rfl rfl ?_
    refine r_goto (tgt := 24) dX11_layTold_79 rfl ?_
    exact h14
theorem vn_layTold_84 {e : Nat} {M : jM} {Q : Option jV → jM → Prop} {l1 : Int}  (he : 6 ≤ e) (hS : Shp M)
  (h : (((iv M 468 25) ≤ l1) → (∀ N18 : jM, N18 = (si M 486 168 (iv M 482 0)) → Shp N18 → (Q none N18))) ∧ (¬ ((iv M 468 25) ≤ l1) → ((0 ≤ (w32 ((w32 ((3 : Int) * l1)) + (0 : Int))) ∧ (w32 ((w32 ((3 : Int) * l1)) + (0 : Int))) < 24) ∧ ((0 ≤ (w32 ((160 : Int) + l1)) ∧ (w32 ((160 : Int) + l1)) < 352) ∧ (∀ N22 : jM, N22 = (si M 486 (w32 ((160 : Int) + l1)).toNat (iv M 483 (w32 ((w32 ((3 : Int) * l1)) + (0 : Int))).toNat)) → Shp N22 → (Run (e + 1) mX11_layTold 84 [some (vR 468), some (vI (w32 (l1 + (1 : Int))))] [] N22 Q)))))) :
  Run (e + 1) mX11_layTold 84 [some (vR 468), some (vI l1)] [] M Q := by
  refine r_iload_n dX11_layTold_84 rfl ?_
  refine r_aload_n dX11_layTold_85 rfl ?_
  refine r_get0 dX11_layTold_86 kF11_287 (sh_o hS kk468 (by decide)) ?_
  refine r_icmp_ge dX11_layTold_89 rfl (fun c17 => ?_) (fun c17 => ?_)
  · refine r_aload_n dX11_layTold_118 rfl ?_
    refine r_getS (v := 486) dX11_layTold_119 kF11_61 (sh_o hS kk468 (by decide)) (sh_f hS rr468_28 (by decide)) ?_
    refine r_sipush dX11_layTold_122 (by decide) ?_
    refine r_aload_n dX11_layTold_125 rfl ?_
    refine r_getS (v := 482) dX11_layTold_126 kF11_49 (sh_o hS kk468 (by decide)) (sh_f hS rr468_22 (by decide)) ?_
    refine r_iconst dX11_layTold_129 (by decide) ?_
    refine r_ialoadK (k := 0) dX11_layTold_130 rfl (jro_ix (n := 4) (sh_r hS kk482 (by decide)) (by decide)) ?_
    refine r_iastoreK (k := 168) dX11_layTold_131 rfl ⟨jro_ix (n := 352) (sh_r hS kk486 (by decide)) (by decide), (by decide)⟩ ?_
    have K25 : ∀ N18 : jM, N18 = (si M 486 168 (iv M 482 0)) → Run (e + 1) mX11_layTold 132 [some (vR 468), some (vI l1)] [] N18 Q := by
      intro N18 hN24
      have sN19 : Shp N18 := by rw [hN24]; exact hS
      exact r_vret dX11_layTold_132 rfl ((h.1 c17) N18 hN24 sN19)
    exact K25 _ rfl
  · refine r_aload_n dX11_layTold_92 rfl ?_
    refine r_getS (v := 486) dX11_layTold_93 kF11_61 (sh_o hS kk468 (by decide)) (sh_f hS rr468_28 (by decide)) ?_
    refine r_sipush dX11_layTold_96 (by decide) ?_
    refine r_iload_n dX11_layTold_99 rfl ?_
    refine r_iadd dX11_layTold_100 ?_
    refine r_aload_n dX11_layTold_101 rfl ?_
    refine r_getS (v := 483) dX11_layTold_102 kF11_52 (sh_o hS kk468 (by decide)) (sh_f hS rr468_23 (by decide)) ?_
    refine r_iconst dX11_layTold_105 (by decide) ?_
    refine r_iload_n dX11_layTold_106 rfl ?_
    refine r_imul dX11_layTold_107 ?_
    refine r_iconst dX11_layTold_108 (by decide) ?_
    refine r_iadd dX11_layTold_109 ?_
    have ob20 := (h.2 c17).1
    refine r_iaload dX11_layTold_110 (jro_ix (sh_r hS kk483 (by decide)) ob20) ?_
    have ob21 := (h.2 c17).2.1
    refine r_iastore dX11_layTold_111 ⟨jro_ix (sh_r hS kk486 (by decide)) ob21, (by decide)⟩ ?_
    have K27 : ∀ N22 : jM, N22 = (si M 486 (w32 ((160 : Int) + l1)).toNat (iv M 483 (w32 ((w32 ((3 : Int) * l1)) + (0 : Int))).toNat)) → Run (e + 1) mX11_layTold 112 [some (vR 468), some (vI l1)] [] N22 Q := by
      intro N22 hN26
      have sN23 : Shp N22 := by rw [hN26]; exact hS
      refine r_iinc (ls2 := [some (vR 468), some (vI (w32 (l1 + (1 : Int))))]) dX11_layTold_112 rfl rfl ?_
      refine r_goto (tgt := 84) dX11_layTold_115 rfl ?_
      exact ((h.2 c17).2.2 N22 hN26 sN23)
    exact K27 _ rfl
theorem vn_layTrail {e : Nat} {M : jM} {Q : Option jV → jM → Prop} {cd : Int} (he : 6 ≤ e) (hS : Shp M)
  (h : Call e mX11_putAside [vR 468, vI (0 : Int)] M (fun r4 M2 => r4 = none ∧ Shp M2 ∧ (Call e mX11_layTold [vR 468] M2 (fun r9 M7 => r9 = none ∧ Shp M7 ∧ (Call e mX11_emptyIn [vR 468, vI (jdiv cd (1000 : Int))] M7 (fun r14 M12 => ∃ z11 : Int, r14 = some (vI z11) ∧ Shp M12 ∧ ((((if z11 = (-1 : Int) then (0 : Int) else (1 : Int)) = (0 : Int)) → (Run (e + 1) mX11_layTrail 61 [some (vR 468), some (vI cd), some (vI (if z11 = (-1 : Int) then (0 : Int) else (1 : Int))), some (vI (0 : Int)), none] [] M12 Q)) ∧ (¬ ((if z11 = (-1 : Int) then (0 : Int) else (1 : Int)) = (0 : Int)) → (Call e mX11_putThought [vR 468, vI (jdiv cd (1000 : Int)), vI (jrem (jdiv cd (100 : Int)) (10 : Int)), vI (jrem (jdiv cd (10 : Int)) (10 : Int)), vI (jrem cd (10 : Int))] M12 (fun r20 M18 => r20 = none ∧ Shp M18 ∧ (Run (e + 1) mX11_layTrail 61 [some (vR 468), some (vI cd), some (vI (if z11 = (-1 : Int) then (0 : Int) else (1 : Int))), some (vI (0 : Int)), none] [] M18 Q))))))))))) :
  Call (e + 1) mX11_layTrail [vR 468, vI cd] M Q := by
  show Run (e + 1) mX11_layTrail 0 [some (vR 468), some (vI cd), none, none, none] [] M Q
  refine r_aload_n dX11_layTrail_0 rfl ?_
  refine r_iconst dX11_layTrail_1 (by decide) ?_
  refine r_invV_v dX11_layTrail_2 kM11_404 (by decide) (Nat.le_of_ble_eq_true rfl) rfl rfl (Nat.le_of_ble_eq_true rfl) (Nat.le_of_ble_eq_true rfl) (sh_o hS kk468 (by decide)) (Call.mono h (Nat.le_refl _) ?_)
  rintro _ M2 ⟨rfl, s5, h3⟩
  refine ⟨rfl, ?_⟩
  refine r_aload_n dX11_layTrail_5 rfl ?_
  refine r_invV_v dX11_layTrail_6 kM11_290 (by decide) (Nat.le_of_ble_eq_true rfl) rfl rfl (Nat.le_of_ble_eq_true rfl) (Nat.le_of_ble_eq_true rfl) (sh_o s5 kk468 (by decide)) (Call.mono h3 (Nat.le_refl _) ?_)
  rintro _ M7 ⟨rfl, s10, h8⟩
  refine ⟨rfl, ?_⟩
  refine r_aload_n dX11_layTrail_9 rfl ?_
  refine r_iload_n dX11_layTrail_10 rfl ?_
  refine r_sipush dX11_layTrail_11 (by decide) ?_
  refine r_idiv dX11_layTrail_14 (by decide) ?_
  refine r_invV_i dX11_layTrail_15 kM11_274 (by decide) (Nat.le_of_ble_eq_true rfl) rfl rfl (Nat.le_of_ble_eq_true rfl) (Nat.le_of_ble_eq_true rfl) (sh_o s10 kk468 (by decide)) (Call.mono h8 (Nat.le_refl _) ?_)
  rintro _ M12 ⟨z11, rfl, s15, h13⟩
  refine ⟨_, rfl, ?_⟩
  refine r_iconst dX11_layTrail_18 (by decide) ?_
  have K22 : Run (e + 1) mX11_layTrail 27 [some (vR 468), some (vI cd), none, none, none] [vI (if z11 = (-1 : Int) then (0 : Int) else (1 : Int))] M12 Q := by
    refine r_istore_n (ls2 := [some (vR 468), some (vI cd), some (vI (if z11 = (-1 : Int) then (0 : Int) else (1 : Int))), none, none]) dX11_layTrail_27 (Nat.le_of_ble_eq_true rfl) rfl ?_
    refine r_iload_n dX11_layTrail_28 rfl ?_
    refine r_if_eq dX11_layTrail_29 rfl (fun c16 => ?_) (fun c16 => ?_)
    · refine r_iconst dX11_layTrail_59 (by decide) ?_
      refine r_istore_n (ls2 := [some (vR 468), some (vI cd), some (vI (if z11 = (-1 : Int) then (0 : Int) else (1 : Int))), some (vI (0 : Int)), none]) dX11_layTrail_60 (Nat.le_of_ble_eq_true rfl) rfl ?_
      exact (h13.1 c16)
    · refine r_aload_n dX11_layTrail_32 rfl ?_
      refine r_iload_n dX11_layTrail_33 rfl ?_
      refine r_sipush dX11_layTrail_34 (by decide) ?_
      refine r_idiv dX11_layTrail_37 (by decide) ?_
      refine r_iload_n dX11_layTrail_38 rfl ?_
      refine r_bipush dX11_layTrail_39 (by decide) ?_
      refine r_idiv dX11_layTrail_41 (by decide) ?_
      refine r_bipush dX11_layTrail_42 (by decide) ?_
      refine r_irem dX11_layTrail_44 (by decide) ?_
      refine r_iload_n dX11_layTrail_45 rfl ?_
      refine r_bipush dX11_layTrail_46 (by decide) ?_
      refine r_idiv dX11_layTrail_48 (by decide) ?_
      refine r_bipush dX11_layTrail_49 (by decide) ?_
      refine r_irem dX11_layTrail_51 (by decide) ?_
      refine r_iload_n dX11_layTrail_52 rfl ?_
      refine r_bipush dX11_layTrail_53 (by decide) ?_
      refine r_irem dX11_layTrail_55 (by decide) ?_
      refine r_invV_v dX11_layTrail_56 kM11_284 (by decide) (Nat.le_of_ble_eq_true rfl) rfl rfl (Nat.le_of_ble_eq_true rfl) (Nat.le_of_ble_eq_true rfl) (sh_o s15 kk468 (by decide)) (Call.mono (h13.2 c16) (Nat.le_refl _) ?_)
      rintro _ M18 ⟨rfl, s21, h19⟩
      refine ⟨rfl, ?_⟩
      refine r_iconst dX11_layTrail_59 (by decide) ?_
      refine r_istore_n (ls2 := [some (vR 468), some (vI cd), some (vI (if z11 = (-1 : Int) then (0 : Int) else (1 : Int))), some (vI (0 : Int)), none]) dX11_layTrail_60 (Nat.le_of_ble_eq_true rfl) rfl ?_
      exact h19
  refine r_icmp_eq dX11_layTrail_19 rfl (fun q23 => ?_) (fun q23 => ?_)
  · rw [if_pos q23] at K22
    refine r_iconst dX11_layTrail_26 (by decide) ?_
    exact K22
  · rw [if_neg q23] at K22
    refine r_iconst dX11_layTrail_22 (by decide) ?_
    refine r_goto (tgt := 27) dX11_layTrail_23 rfl ?_
    exact K22
theorem vn_layTrail_61 {e : Nat} {M : jM} {Q : Option jV → jM → Prop} {cd : Int} {l2 : Int} {l3 : Int} {l4 : Option jV}  (he : 6 ≤ e) (hS : Shp M)
  (h : (((8 : Int) < l3) → (Call e mX11_takeBack [vR 468, vI (0 : Int)] M (fun r29 M27 => r29 = none ∧ Shp M27 ∧ ((l2 = 0 ∨ l2 = 1) ∧ Q (some (vI l2)) M27)))) ∧ (¬ ((8 : Int) < l3) → (((l2 = (0 : Int)) → (Call e mX11_takeBack [vR 468, vI (0 : Int)] M (fun r35 M33 => r35 = none ∧ Shp M33 ∧ ((l2 = 0 ∨ l2 = 1) ∧ Q (some (vI l2)) M33)))) ∧ (¬ (l2 = (0 : Int)) → (Run (e + 1) mX11_layTrail 74 [some (vR 468), some (vI cd), some (vI l2), some (vI l3), some (vI (0 : Int))] [] M Q))))) :
  Run (e + 1) mX11_layTrail 61 [some (vR 468), some (vI cd), some (vI l2), some (vI l3), l4] [] M Q := by
  refine r_iload_n dX11_layTrail_61 rfl ?_
  refine r_bipush dX11_layTrail_62 (by decide) ?_
  refine r_icmp_gt dX11_layTrail_64 rfl (fun c25 => ?_) (fun c25 => ?_)
  · refine r_aload_n dX11_layTrail_117 rfl ?_
    refine r_iconst dX11_layTrail_118 (by decide) ?_
    refine r_invV_v dX11_layTrail_119 kM11_407 (by decide) (Nat.le_of_ble_eq_true rfl) rfl rfl (Nat.le_of_ble_eq_true rfl) (Nat.le_of_ble_eq_true rfl) (sh_o hS kk468 (by decide)) (Call.mono (h.1 c25) (Nat.le_refl _) ?_)
    rintro _ M27 ⟨rfl, s30, h28⟩
    refine ⟨rfl, ?_⟩
    refine r_iload_n dX11_layTrail_122 rfl ?_
    exact r_zret dX11_layTrail_123 rfl h28.1 h28.2
  · refine r_iload_n dX11_layTrail_67 rfl ?_
    refine r_if_eq dX11_layTrail_68 rfl (fun c31 => ?_) (fun c31 => ?_)
    · refine r_aload_n dX11_layTrail_117 rfl ?_
      refine r_iconst dX11_layTrail_118 (by decide) ?_
      refine r_invV_v dX11_layTrail_119 kM11_407 (by decide) (Nat.le_of_ble_eq_true rfl) rfl rfl (Nat.le_of_ble_eq_true rfl) (Nat.le_of_ble_eq_true rfl) (sh_o hS kk468 (by decide)) (Call.mono ((h.2 c25).1 c31) (Nat.le_refl _) ?_)
      rintro _ M33 ⟨rfl, s36, h34⟩
      refine ⟨rfl, ?_⟩
      refine r_iload_n dX11_layTrail_122 rfl ?_
      exact r_zret dX11_layTrail_123 rfl h34.1 h34.2
    · refine r_iconst dX11_layTrail_71 (by decide) ?_
      refine r_istore (ls2 := [some (vR 468), some (vI cd), some (vI l2), some (vI l3), some (vI (0 : Int))]) dX11_layTrail_72 (Nat.le_of_ble_eq_true rfl) rfl ?_
      exact ((h.2 c25).2 c31)
theorem vn_layTrail_74 {e : Nat} {M : jM} {Q : Option jV → jM → Prop} {cd : Int} {l2 : Int} {l3 : Int} {l4 : Int}  (he : 6 ≤ e) (hS : Shp M)
  (h : (((iv M 468 25) ≤ l4) → (Call e mX11_live [vR 468] M (fun r41 M39 => r41 = none ∧ Shp M39 ∧ (Run (e + 1) mX11_layTrail 61 [some (vR 468), some (vI cd), some (vI l2), some (vI (w32 (l3 + (1 : Int)))), some (vI l4)] [] M39 Q)))) ∧ (¬ ((iv M 468 25) ≤ l4) → (Call e mX11_weightOf [vR 468, vI l4] M (fun r46 M44 => ∃ z43 : Int, r46 = some (vL z43) ∧ Shp M44 ∧ ((0 ≤ (w32 ((w32 ((8 : Int) * l3)) + l4)) ∧ (w32 ((w32 ((8 : Int) * l3)) + l4)) < 72) ∧ (∀ N49 : jM, N49 = (sl M44 496 (w32 ((w32 ((8 : Int) * l3)) + l4)).toNat z43) → Shp N49 → (Run (e + 1) mX11_layTrail 74 [some (vR 468), some (vI cd), some (vI l2), some (vI l3), some (vI (w32 (l4 + (1 : Int))))] [] N49 Q))))))) :
  Run (e + 1) mX11_layTrail 74 [some (vR 468), some (vI cd), some (vI l2), some (vI l3), some (vI l4)] [] M Q := by
  refine r_iload dX11_layTrail_74 rfl ?_
  refine r_aload_n dX11_layTrail_76 rfl ?_
  refine r_get0 dX11_layTrail_77 kF11_287 (sh_o hS kk468 (by decide)) ?_
  refine r_icmp_ge dX11_layTrail_80 rfl (fun c37 => ?_) (fun c37 => ?_)
  · refine r_aload_n dX11_layTrail_107 rfl ?_
    refine r_invV_v dX11_layTrail_108 kM11_354 (by decide) (Nat.le_of_ble_eq_true rfl) rfl rfl (Nat.le_of_ble_eq_true rfl) (Nat.le_of_ble_eq_true rfl) (sh_o hS kk468 (by decide)) (Call.mono (h.1 c37) (Nat.le_refl _) ?_)
    rintro _ M39 ⟨rfl, s42, h40⟩
    refine ⟨rfl, ?_⟩
    refine r_iinc (ls2 := [some (vR 468), some (vI cd), some (vI l2), some (vI (w32 (l3 + (1 : Int)))), some (vI l4)]) dX11_layTrail_111 rfl rfl ?_
    refine r_goto (tgt := 61) dX11_layTrail_114 rfl ?_
    exact h40
  · refine r_aload_n dX11_layTrail_83 rfl ?_
    refine r_getS (v := 496) dX11_layTrail_84 kF11_100 (sh_o hS kk468 (by decide)) (sh_f hS rr468_43 (by decide)) ?_
    refine r_bipush dX11_layTrail_87 (by decide) ?_
    refine r_iload_n dX11_layTrail_89 rfl ?_
    refine r_imul dX11_layTrail_90 ?_
    refine r_iload dX11_layTrail_91 rfl ?_
    refine r_iadd dX11_layTrail_93 ?_
    refine r_aload_n dX11_layTrail_94 rfl ?_
    refine r_iload dX11_layTrail_95 rfl ?_
    refine r_invV_l dX11_layTrail_97 kM11_340 (by decide) (Nat.le_of_ble_eq_true rfl) rfl rfl (Nat.le_of_ble_eq_true rfl) (Nat.le_of_ble_eq_true rfl) (sh_o hS kk468 (by decide)) (Call.mono (h.2 c37) (Nat.le_refl _) ?_)
    rintro _ M44 ⟨z43, rfl, s47, h45⟩
    refine ⟨_, rfl, ?_⟩
    have ob48 := h45.1
    refine r_lastore dX11_layTrail_100 ⟨jro_ix (sh_r s47 kk496 (by decide)) ob48, (by decide)⟩ ?_
    have K52 : ∀ N49 : jM, N49 = (sl M44 496 (w32 ((w32 ((8 : Int) * l3)) + l4)).toNat z43) → Run (e + 1) mX11_layTrail 101 [some (vR 468), some (vI cd), some (vI l2), some (vI l3), some (vI l4)] [] N49 Q := by
      intro N49 hN51
      have sN50 : Shp N49 := by rw [hN51]; exact s47
      refine r_iinc (ls2 := [some (vR 468), some (vI cd), some (vI l2), some (vI l3), some (vI (w32 (l4 + (1 : Int))))]) dX11_layTrail_101 rfl rfl ?_
      refine r_goto (tgt := 74) dX11_layTrail_104 rfl ?_
      exact (h45.2 N49 hN51 sN50)
    exact K52 _ rfl
theorem vn_isFit {e : Nat} {M : jM} {Q : Option jV → jM → Prop} {cd : Int} (he : 6 ≤ e) (hS : Shp M)
  (h : Call e mX11_isCode [vR 468, vI cd] M (fun r4 M2 => ∃ z1 : Int, r4 = some (vI z1) ∧ Shp M2 ∧ (((z1 = (0 : Int)) → (Q (some (vI (0 : Int))) M2)) ∧ (¬ (z1 = (0 : Int)) → (Call e mX11_layTrail [vR 468, vI cd] M2 (fun r10 M8 => ∃ z7 : Int, r10 = some (vI z7) ∧ Shp M8 ∧ (((z7 ≠ (0 : Int)) → (Run (e + 1) mX11_isFit 20 [some (vR 468), some (vI cd), some (vI (0 : Int))] [] M8 Q)) ∧ (¬ (z7 ≠ (0 : Int)) → (Q (some (vI (0 : Int))) M8))))))))) :
  Call (e + 1) mX11_isFit [vR 468, vI cd] M Q := by
  show Run (e + 1) mX11_isFit 0 [some (vR 468), some (vI cd), none] [] M Q
  refine r_aload_n dX11_isFit_0 rfl ?_
  refine r_iload_n dX11_isFit_1 rfl ?_
  refine r_invV_i dX11_isFit_2 kM11_434 (by decide) (Nat.le_of_ble_eq_true rfl) rfl rfl (Nat.le_of_ble_eq_true rfl) (Nat.le_of_ble_eq_true rfl) (sh_o hS kk468 (by decide)) (Call.mono h (Nat.le_refl _) ?_)
  rintro _ M2 ⟨z1, rfl, s5, h3⟩
  refine ⟨_, rfl, ?_⟩
  refine r_if_eq dX11_isFit_5 rfl (fun c6 => ?_) (fun c6 => ?_)
  · refine r_iconst dX11_isFit_16 (by decide) ?_
    exact r_zret dX11_isFit_17 rfl (by decide) (h3.1 c6)
  · refine r_aload_n dX11_isFit_8 rfl ?_
    refine r_iload_n dX11_isFit_9 rfl ?_
    refine r_invV_i dX11_isFit_10 kM11_437 (by decide) (Nat.le_of_ble_eq_true rfl) rfl rfl (Nat.le_of_ble_eq_true rfl) (Nat.le_of_ble_eq_true rfl) (sh_o s5 kk468 (by decide)) (Call.mono (h3.2 c6) (Nat.le_refl _) ?_)
    rintro _ M8 ⟨z7, rfl, s11, h9⟩
    refine ⟨_, rfl, ?_⟩
    refine r_if_ne dX11_isFit_13 rfl (fun c12 => ?_) (fun c12 => ?_)
    · refine r_iconst dX11_isFit_18 (by decide) ?_
      refine r_istore_n (ls2 := [some (vR 468), some (vI cd), some (vI (0 : Int))]) dX11_isFit_19 (Nat.le_of_ble_eq_true rfl) rfl ?_
      exact (h9.1 c12)
    · refine r_iconst dX11_isFit_16 (by decide) ?_
      exact r_zret dX11_isFit_17 rfl (by decide) (h9.2 c12)
theorem vn_isFit_20 {e : Nat} {M : jM} {Q : Option jV → jM → Prop} {cd : Int} {l2 : Int}  (he : 6 ≤ e) (hS : Shp M)
  (h : (((iv M 468 42) ≤ l2) → (Q (some (vI (1 : Int))) M)) ∧ (¬ ((iv M 468 42) ≤ l2) → ((0 ≤ l2 ∧ l2 < 10) ∧ (∀ v15 : Int, v15 = (w32 ((w32 ((8 : Int) * (iv M 493 (l2).toNat))) + (iv M 492 (l2).toNat))) → ((0 ≤ v15 ∧ v15 < 72) ∧ (∀ v17 : Int, v17 = (jcmp (lg M 496 (v15).toNat) (w64 ((1000 : Int) * (iv M 494 (l2).toNat)))) → ((((if v17 < (0 : Int) then (0 : Int) else (1 : Int)) = (iv M 495 (l2).toNat)) → (Run (e + 1) mX11_isFit 20 [some (vR 468), some (vI cd), some (vI (w32 (l2 + (1 : Int))))] [] M Q)) ∧ (¬ ((if v17 < (0 : Int) then (0 : Int) else (1 : Int)) = (iv M 495 (l2).toNat)) → (Q (some (vI (0 : Int))) M))))))))) :
  Run (e + 1) mX11_isFit 20 [some (vR 468), some (vI cd), some (vI l2)] [] M Q := by
  refine r_iload_n dX11_isFit_20 rfl ?_
  refine r_aload_n dX11_isFit_21 rfl ?_
  refine r_get0 dX11_isFit_22 kF11_293 (sh_o hS kk468 (by decide)) ?_
  refine r_icmp_ge dX11_isFit_25 rfl (fun c13 => ?_) (fun c13 => ?_)
  · refine r_iconst dX11_isFit_86 (by decide) ?_
    exact r_zret dX11_isFit_87 rfl (by decide) (h.1 c13)
  · refine r_aload_n dX11_isFit_28 rfl ?_
    refine r_getS (v := 496) dX11_isFit_29 kF11_100 (sh_o hS kk468 (by decide)) (sh_f hS rr468_43 (by decide)) ?_
    refine r_bipush dX11_isFit_32 (by decide) ?_
    refine r_aload_n dX11_isFit_34 rfl ?_
    refine r_getS (v := 493) dX11_isFit_35 kF11_90 (sh_o hS kk468 (by decide)) (sh_f hS rr468_39 (by decide)) ?_
    refine r_iload_n dX11_isFit_38 rfl ?_
    have ob14 := (h.2 c13).1
    refine r_iaload dX11_isFit_39 (jro_ix (sh_r hS kk493 (by decide)) ob14) ?_
    refine r_imul dX11_isFit_40 ?_
    refine r_aload_n dX11_isFit_41 rfl ?_
    refine r_getS (v := 492) dX11_isFit_42 kF11_87 (sh_o hS kk468 (by decide)) (sh_f hS rr468_38 (by decide)) ?_
    refine r_iload_n dX11_isFit_45 rfl ?_
    refine r_iaload dX11_isFit_46 (jro_ix (sh_r hS kk492 (by decide)) ob14) ?_
    refine r_iadd dX11_isFit_47 ?_
    have K20 : ∀ v15 : Int, v15 = (w32 ((w32 ((8 : Int) * (iv M 493 (l2).toNat))) + (iv M 492 (l2).toNat))) → Run (e + 1) mX11_isFit 48 [some (vR 468), some (vI cd), some (vI l2)] [vI v15, vR 496] M Q := by
      intro v15 hv19
      have ob16 := ((h.2 c13).2 v15 hv19).1
      refine r_laload dX11_isFit_48 (jro_ix (sh_r hS kk496 (by decide)) ob16) ?_
      refine r_ldc2 dX11_isFit_49 kL11_329 ?_
      refine r_aload_n dX11_isFit_52 rfl ?_
      refine r_getS (v := 494) dX11_isFit_53 kF11_93 (sh_o hS kk468 (by decide)) (sh_f hS rr468_40 (by decide)) ?_
      refine r_iload_n dX11_isFit_56 rfl ?_
      refine r_iaload dX11_isFit_57 (jro_ix (sh_r hS kk494 (by decide)) ob14) ?_
      refine r_i2l dX11_isFit_58 ?_
      refine r_lmul dX11_isFit_59 ?_
      refine r_lcmp dX11_isFit_60 ?_
      have K22 : ∀ v17 : Int, v17 = (jcmp (lg M 496 (v15).toNat) (w64 ((1000 : Int) * (iv M 494 (l2).toNat)))) → Run (e + 1) mX11_isFit 61 [some (vR 468), some (vI cd), some (vI l2)] [vI v17] M Q := by
        intro v17 hv21
        have K23 : Run (e + 1) mX11_isFit 69 [some (vR 468), some (vI cd), some (vI l2)] [vI (if v17 < (0 : Int) then (0 : Int) else (1 : Int))] M Q := by
          refine r_aload_n dX11_isFit_69 rfl ?_
          refine r_getS (v := 495) dX11_isFit_70 kF11_96 (sh_o hS kk468 (by decide)) (sh_f hS rr468_41 (by decide)) ?_
          refine r_iload_n dX11_isFit_73 rfl ?_
          refine r_baload dX11_isFit_74 (jro_ix (sh_r hS kk495 (by decide)) ob14) ?_
          refine r_icmp_eq dX11_isFit_75 rfl (fun c18 => ?_) (fun c18 => ?_)
          · refine r_iinc (ls2 := [some (vR 468), some (vI cd), some (vI (w32 (l2 + (1 : Int))))]) dX11_isFit_80 rfl rfl ?_
            refine r_goto (tgt := 20) dX11_isFit_83 rfl ?_
            exact ((((h.2 c13).2 v15 hv19).2 v17 hv21).1 c18)
          · refine r_iconst dX11_isFit_78 (by decide) ?_
            exact r_zret dX11_isFit_79 rfl (by decide) ((((h.2 c13).2 v15 hv19).2 v17 hv21).2 c18)
        refine r_if_lt dX11_isFit_61 rfl (fun q24 => ?_) (fun q24 => ?_)
        · rw [if_pos q24] at K23
          refine r_iconst dX11_isFit_68 (by decide) ?_
          exact K23
        · rw [if_neg q24] at K23
          refine r_iconst dX11_isFit_64 (by decide) ?_
          refine r_goto (tgt := 69) dX11_isFit_65 rfl ?_
          exact K23
      exact K22 _ rfl
    exact K20 _ rfl
theorem vn_fits {e : Nat} {M : jM} {Q : Option jV → jM → Prop} {i : Int} (he : 6 ≤ e) (hS : Shp M)
  (h : (((iv M 468 25) = (0 : Int)) → (Q (some (vI (-1 : Int))) M)) ∧ (¬ ((iv M 468 25) = (0 : Int)) → ((((-1 : Int) ≤ i) → (Run (e + 1) mX11_fits 18 [some (vR 468), some (vI i), some (vI (0 : Int)), some (vI (0 : Int))] [] M Q)) ∧ (¬ ((-1 : Int) ≤ i) → (Q (some (vI (-1 : Int))) M))))) :
  Call (e + 1) mX11_fits [vR 468, vI i] M Q := by
  show Run (e + 1) mX11_fits 0 [some (vR 468), some (vI i), none, none] [] M Q
  refine r_aload_n dX11_fits_0 rfl ?_
  refine r_get0 dX11_fits_1 kF11_287 (sh_o hS kk468 (by decide)) ?_
  refine r_if_eq dX11_fits_4 rfl (fun c1 => ?_) (fun c1 => ?_)
  · refine r_iconst dX11_fits_12 (by decide) ?_
    exact r_iret dX11_fits_13 rfl (h.1 c1)
  · refine r_iload_n dX11_fits_7 rfl ?_
    refine r_iconst dX11_fits_8 (by decide) ?_
    refine r_icmp_ge dX11_fits_9 rfl (fun c2 => ?_) (fun c2 => ?_)
    · refine r_iconst dX11_fits_14 (by decide) ?_
      refine r_istore_n (ls2 := [some (vR 468), some (vI i), some (vI (0 : Int)), none]) dX11_fits_15 (Nat.le_of_ble_eq_true rfl) rfl ?_
      refine r_iconst dX11_fits_16 (by decide) ?_
      refine r_istore_n (ls2 := [some (vR 468), some (vI i), some (vI (0 : Int)), some (vI (0 : Int))]) dX11_fits_17 (Nat.le_of_ble_eq_true rfl) rfl ?_
      exact ((h.2 c1).1 c2)
    · refine r_iconst dX11_fits_12 (by decide) ?_
      exact r_iret dX11_fits_13 rfl ((h.2 c1).2 c2)
theorem vn_fits_18 {e : Nat} {M : jM} {Q : Option jV → jM → Prop} {i : Int} {l2 : Int} {l3 : Int}  (he : 6 ≤ e) (hS : Shp M)
  (h : (((w32 ((1000 : Int) * (iv M 468 25))) ≤ l3) → (Q (some (vI (if i ≠ (-1 : Int) then (-1 : Int) else l2))) M)) ∧ (¬ ((w32 ((1000 : Int) * (iv M 468 25))) ≤ l3) → (Call e mX11_isFit [vR 468, vI l3] M (fun r7 M5 => ∃ z4 : Int, r7 = some (vI z4) ∧ Shp M5 ∧ (((z4 = (0 : Int)) → (Run (e + 1) mX11_fits 18 [some (vR 468), some (vI i), some (vI l2), some (vI (w32 (l3 + (1 : Int))))] [] M5 Q)) ∧ (¬ (z4 = (0 : Int)) → (((l2 ≠ i) → (Run (e + 1) mX11_fits 18 [some (vR 468), some (vI i), some (vI (w32 (l2 + (1 : Int)))), some (vI (w32 (l3 + (1 : Int))))] [] M5 Q)) ∧ (¬ (l2 ≠ i) → (Q (some (vI l3)) M5))))))))) :
  Run (e + 1) mX11_fits 18 [some (vR 468), some (vI i), some (vI l2), some (vI l3)] [] M Q := by
  refine r_iload_n dX11_fits_18 rfl ?_
  refine r_sipush dX11_fits_19 (by decide) ?_
  refine r_aload_n dX11_fits_22 rfl ?_
  refine r_get0 dX11_fits_23 kF11_287 (sh_o hS kk468 (by decide)) ?_
  refine r_imul dX11_fits_26 ?_
  refine r_icmp_ge dX11_fits_27 rfl (fun c3 => ?_) (fun c3 => ?_)
  · refine r_iload_n dX11_fits_54 rfl ?_
    refine r_iconst dX11_fits_55 (by decide) ?_
    have K11 : Run (e + 1) mX11_fits 64 [some (vR 468), some (vI i), some (vI l2), some (vI l3)] [vI (if i ≠ (-1 : Int) then (-1 : Int) else l2)] M Q := by
      exact r_iret dX11_fits_64 rfl (h.1 c3)
    refine r_icmp_ne dX11_fits_56 rfl (fun q12 => ?_) (fun q12 => ?_)
    · rw [if_pos q12] at K11
      refine r_iconst dX11_fits_63 (by decide) ?_
      exact K11
    · rw [if_neg q12] at K11
      refine r_iload_n dX11_fits_59 rfl ?_
      refine r_goto (tgt := 64) dX11_fits_60 rfl ?_
      exact K11
  · refine r_aload_n dX11_fits_30 rfl ?_
    refine r_iload_n dX11_fits_31 rfl ?_
    refine r_invV_i dX11_fits_32 kM11_440 (by decide) (Nat.le_of_ble_eq_true rfl) rfl rfl (Nat.le_of_ble_eq_true rfl) (Nat.le_of_ble_eq_true rfl) (sh_o hS kk468 (by decide)) (Call.mono (h.2 c3) (Nat.le_refl _) ?_)
    rintro _ M5 ⟨z4, rfl, s8, h6⟩
    refine ⟨_, rfl, ?_⟩
    refine r_if_eq dX11_fits_35 rfl (fun c9 => ?_) (fun c9 => ?_)
    · refine r_iinc (ls2 := [some (vR 468), some (vI i), some (vI l2), some (vI (w32 (l3 + (1 : Int))))]) dX11_fits_48 rfl rfl ?_
      refine r_goto (tgt := 18) dX11_fits_51 rfl ?_
      exact (h6.1 c9)
    · refine r_iload_n dX11_fits_38 rfl ?_
      refine r_iload_n dX11_fits_39 rfl ?_
      refine r_icmp_ne dX11_fits_40 rfl (fun c10 => ?_) (fun c10 => ?_)
      · refine r_iinc (ls2 := [some (vR 468), some (vI i), some (vI (w32 (l2 + (1 : Int)))), some (vI l3)]) dX11_fits_45 rfl rfl ?_
        refine r_iinc (ls2 := [some (vR 468), some (vI i), some (vI (w32 (l2 + (1 : Int)))), some (vI (w32 (l3 + (1 : Int))))]) dX11_fits_48 rfl rfl ?_
        refine r_goto (tgt := 18) dX11_fits_51 rfl ?_
        exact ((h6.2 c9).1 c10)
      · refine r_iload_n dX11_fits_43 rfl ?_
        exact r_iret dX11_fits_44 rfl ((h6.2 c9).2 c10)
theorem vn_ask {e : Nat} {M : jM} {Q : Option jV → jM → Prop} {p : Int} (he : 6 ≤ e) (hS : Shp M)
  (h : (((fIn p 0 (w32 (iv M 468 25 - 1))) ≠ (0 : Int)) → (Run (e + 1) mX11_ask 12 [some (vR 468), some (vI p), some (vI (0 : Int)), none, none, none, none, none] [] M Q)) ∧ (¬ ((fIn p 0 (w32 (iv M 468 25 - 1))) ≠ (0 : Int)) → (Q (some (vI (-1 : Int))) M))) :
  Call (e + 1) mX11_ask [vR 468, vI p] M Q := by
  show Run (e + 1) mX11_ask 0 [some (vR 468), some (vI p), none, none, none, none, none, none] [] M Q
  refine r_aload_n dX11_ask_0 rfl ?_
  refine r_iload_n dX11_ask_1 rfl ?_
  refine r_invV_i dX11_ask_2 kM11_309 (by decide) (Nat.le_of_ble_eq_true rfl) rfl rfl (Nat.le_of_ble_eq_true rfl) (Nat.le_of_ble_eq_true rfl) (sh_o hS kk468 (by decide)) (m_isPerson (by omega) hS ⟨_, rfl, ?_⟩)
  refine r_if_ne dX11_ask_5 rfl (fun c1 => ?_) (fun c1 => ?_)
  · refine r_iconst dX11_ask_10 (by decide) ?_
    refine r_istore_n (ls2 := [some (vR 468), some (vI p), some (vI (0 : Int)), none, none, none, none, none]) dX11_ask_11 (Nat.le_of_ble_eq_true rfl) rfl ?_
    exact (h.1 c1)
  · refine r_iconst dX11_ask_8 (by decide) ?_
    exact r_iret dX11_ask_9 rfl (h.2 c1)
theorem vn_ask_12 {e : Nat} {M : jM} {Q : Option jV → jM → Prop} {p : Int} {l2 : Int} {l3 : Option jV} {l4 : Option jV} {l5 : Option jV} {l6 : Option jV} {l7 : Option jV}  (he : 6 ≤ e) (hS : Shp M)
  (h : (((576 : Int) ≤ l2) → (Run (e + 1) mX11_ask 36 [some (vR 468), some (vI p), some (vI (0 : Int)), some (vI (0 : Int)), l4, l5, l6, l7] [] M Q)) ∧ (¬ ((576 : Int) ≤ l2) → ((0 ≤ l2 ∧ l2 < 576) ∧ (∀ N4 : jM, N4 = (si M 497 (l2).toNat (0 : Int)) → Shp N4 → (Run (e + 1) mX11_ask 12 [some (vR 468), some (vI p), some (vI (w32 (l2 + (1 : Int)))), l3, l4, l5, l6, l7] [] N4 Q))))) :
  Run (e + 1) mX11_ask 12 [some (vR 468), some (vI p), some (vI l2), l3, l4, l5, l6, l7] [] M Q := by
  refine r_iload_n dX11_ask_12 rfl ?_
  refine r_sipush dX11_ask_13 (by decide) ?_
  refine r_icmp_ge dX11_ask_16 rfl (fun c2 => ?_) (fun c2 => ?_)
  · refine r_iconst dX11_ask_32 (by decide) ?_
    refine r_istore_n (ls2 := [some (vR 468), some (vI p), some (vI (0 : Int)), l3, l4, l5, l6, l7]) dX11_ask_33 (Nat.le_of_ble_eq_true rfl) rfl ?_
    refine r_iconst dX11_ask_34 (by decide) ?_
    refine r_istore_n (ls2 := [some (vR 468), some (vI p), some (vI (0 : Int)), some (vI (0 : Int)), l4, l5, l6, l7]) dX11_ask_35 (Nat.le_of_ble_eq_true rfl) rfl ?_
    exact (h.1 c2)
  · refine r_aload_n dX11_ask_19 rfl ?_
    refine r_getS (v := 497) dX11_ask_20 kF11_103 (sh_o hS kk468 (by decide)) (sh_f hS rr468_44 (by decide)) ?_
    refine r_iload_n dX11_ask_23 rfl ?_
    refine r_iconst dX11_ask_24 (by decide) ?_
    have ob3 := (h.2 c2).1
    refine r_iastore dX11_ask_25 ⟨jro_ix (sh_r hS kk497 (by decide)) ob3, (by decide)⟩ ?_
    have K7 : ∀ N4 : jM, N4 = (si M 497 (l2).toNat (0 : Int)) → Run (e + 1) mX11_ask 26 [some (vR 468), some (vI p), some (vI l2), l3, l4, l5, l6, l7] [] N4 Q := by
      intro N4 hN6
      have sN5 : Shp N4 := by rw [hN6]; exact hS
      refine r_iinc (ls2 := [some (vR 468), some (vI p), some (vI (w32 (l2 + (1 : Int)))), l3, l4, l5, l6, l7]) dX11_ask_26 rfl rfl ?_
      refine r_goto (tgt := 12) dX11_ask_29 rfl ?_
      exact ((h.2 c2).2 N4 hN6 sN5)
    exact K7 _ rfl
theorem vn_ask_36 {e : Nat} {M : jM} {Q : Option jV → jM → Prop} {p : Int} {l2 : Int} {l3 : Int} {l4 : Option jV} {l5 : Option jV} {l6 : Option jV} {l7 : Option jV}  (he : 6 ≤ e) (hS : Shp M)
  (h : (((w32 ((1000 : Int) * (iv M 468 25))) ≤ l3) → (Run (e + 1) mX11_ask 121 [some (vR 468), some (vI p), some (vI l2), some (vI (-1 : Int)), some (vI (0 : Int)), some (vI (0 : Int)), l6, l7] [] M Q)) ∧ (¬ ((w32 ((1000 : Int) * (iv M 468 25))) ≤ l3) → (Call e mX11_isFit [vR 468, vI l3] M (fun r12 M10 => ∃ z9 : Int, r12 = some (vI z9) ∧ Shp M10 ∧ (((z9 = (0 : Int)) → (Run (e + 1) mX11_ask 36 [some (vR 468), some (vI p), some (vI l2), some (vI (w32 (l3 + (1 : Int)))), l4, l5, l6, l7] [] M10 Q)) ∧ (¬ (z9 = (0 : Int)) → (Run (e + 1) mX11_ask 62 [some (vR 468), some (vI p), some (vI (w32 (l2 + (1 : Int)))), some (vI l3), some (vI (0 : Int)), l5, l6, l7] [] M10 Q))))))) :
  Run (e + 1) mX11_ask 36 [some (vR 468), some (vI p), some (vI l2), some (vI l3), l4, l5, l6, l7] [] M Q := by
  refine r_iload_n dX11_ask_36 rfl ?_
  refine r_sipush dX11_ask_37 (by decide) ?_
  refine r_aload_n dX11_ask_40 rfl ?_
  refine r_get0 dX11_ask_41 kF11_287 (sh_o hS kk468 (by decide)) ?_
  refine r_imul dX11_ask_44 ?_
  refine r_icmp_ge dX11_ask_45 rfl (fun c8 => ?_) (fun c8 => ?_)
  · refine r_iconst dX11_ask_113 (by decide) ?_
    refine r_istore_n (ls2 := [some (vR 468), some (vI p), some (vI l2), some (vI (-1 : Int)), l4, l5, l6, l7]) dX11_ask_114 (Nat.le_of_ble_eq_true rfl) rfl ?_
    refine r_iconst dX11_ask_115 (by decide) ?_
    refine r_istore (ls2 := [some (vR 468), some (vI p), some (vI l2), some (vI (-1 : Int)), some (vI (0 : Int)), l5, l6, l7]) dX11_ask_116 (Nat.le_of_ble_eq_true rfl) rfl ?_
    refine r_iconst dX11_ask_118 (by decide) ?_
    refine r_istore (ls2 := [some (vR 468), some (vI p), some (vI l2), some (vI (-1 : Int)), some (vI (0 : Int)), some (vI (0 : Int)), l6, l7]) dX11_ask_119 (Nat.le_of_ble_eq_true rfl) rfl ?_
    exact (h.1 c8)
  · refine r_aload_n dX11_ask_48 rfl ?_
    refine r_iload_n dX11_ask_49 rfl ?_
    refine r_invV_i dX11_ask_50 kM11_440 (by decide) (Nat.le_of_ble_eq_true rfl) rfl rfl (Nat.le_of_ble_eq_true rfl) (Nat.le_of_ble_eq_true rfl) (sh_o hS kk468 (by decide)) (Call.mono (h.2 c8) (Nat.le_refl _) ?_)
    rintro _ M10 ⟨z9, rfl, s13, h11⟩
    refine ⟨_, rfl, ?_⟩
    refine r_if_eq dX11_ask_53 rfl (fun c14 => ?_) (fun c14 => ?_)
    · refine r_iinc (ls2 := [some (vR 468), some (vI p), some (vI l2), some (vI (w32 (l3 + (1 : Int)))), l4, l5, l6, l7]) dX11_ask_107 rfl rfl ?_
      refine r_goto (tgt := 36) dX11_ask_110 rfl ?_
      exact (h11.1 c14)
    · refine r_iinc (ls2 := [some (vR 468), some (vI p), some (vI (w32 (l2 + (1 : Int)))), some (vI l3), l4, l5, l6, l7]) dX11_ask_56 rfl rfl ?_
      refine r_iconst dX11_ask_59 (by decide) ?_
      refine r_istore (ls2 := [some (vR 468), some (vI p), some (vI (w32 (l2 + (1 : Int)))), some (vI l3), some (vI (0 : Int)), l5, l6, l7]) dX11_ask_60 (Nat.le_of_ble_eq_true rfl) rfl ?_
      exact (h11.2 c14)
theorem vn_ask_62 {e : Nat} {M : jM} {Q : Option jV → jM → Prop} {p : Int} {l2 : Int} {l3 : Int} {l4 : Int} {l5 : Option jV} {l6 : Option jV} {l7 : Option jV}  (he : 6 ≤ e) (hS : Shp M)
  (h : (((8 : Int) < l4) → (Run (e + 1) mX11_ask 36 [some (vR 468), some (vI p), some (vI l2), some (vI (w32 (l3 + (1 : Int)))), some (vI l4), l5, l6, l7] [] M Q)) ∧ (¬ ((8 : Int) < l4) → ((0 ≤ (w32 ((w32 ((8 : Int) * l4)) + p)) ∧ (w32 ((w32 ((8 : Int) * l4)) + p)) < 72) ∧ ((0 ≤ (lg M 496 (w32 ((w32 ((8 : Int) * l4)) + p)).toNat) ∧ (lg M 496 (w32 ((w32 ((8 : Int) * l4)) + p)).toNat) < 4611686018427387904) ∧ (∀ v18 : Int, v18 = (w32 ((w32 ((64 : Int) * l4)) + ((bl (lg M 496 (w32 ((w32 ((8 : Int) * l4)) + p)).toNat) : Nat) : Int))) → ((0 ≤ (w32 (v18 - (1 : Int))) ∧ (w32 (v18 - (1 : Int))) < 576) ∧ (∀ N20 : jM, N20 = (si M 497 (w32 (v18 - (1 : Int))).toNat (w32 ((iv M 497 (w32 (v18 - (1 : Int))).toNat) + (1 : Int)))) → Shp N20 → (Run (e + 1) mX11_ask 62 [some (vR 468), some (vI p), some (vI l2), some (vI l3), some (vI (w32 (l4 + (1 : Int)))), l5, l6, l7] [] N20 Q)))))))) :
  Run (e + 1) mX11_ask 62 [some (vR 468), some (vI p), some (vI l2), some (vI l3), some (vI l4), l5, l6, l7] [] M Q := by
  refine r_iload dX11_ask_62 rfl ?_
  refine r_bipush dX11_ask_64 (by decide) ?_
  refine r_icmp_gt dX11_ask_66 rfl (fun c15 => ?_) (fun c15 => ?_)
  · refine r_iinc (ls2 := [some (vR 468), some (vI p), some (vI l2), some (vI (w32 (l3 + (1 : Int)))), some (vI l4), l5, l6, l7]) dX11_ask_107 rfl rfl ?_
    refine r_goto (tgt := 36) dX11_ask_110 rfl ?_
    exact (h.1 c15)
  · refine r_aload_n dX11_ask_69 rfl ?_
    refine r_getS (v := 497) dX11_ask_70 kF11_103 (sh_o hS kk468 (by decide)) (sh_f hS rr468_44 (by decide)) ?_
    refine r_bipush dX11_ask_73 (by decide) ?_
    refine r_iload dX11_ask_75 rfl ?_
    refine r_imul dX11_ask_77 ?_
    refine r_aload_n dX11_ask_78 rfl ?_
    refine r_getS (v := 496) dX11_ask_79 kF11_100 (sh_o hS kk468 (by decide)) (sh_f hS rr468_43 (by decide)) ?_
    refine r_bipush dX11_ask_82 (by decide) ?_
    refine r_iload dX11_ask_84 rfl ?_
    refine r_imul dX11_ask_86 ?_
    refine r_iload_n dX11_ask_87 rfl ?_
    refine r_iadd dX11_ask_88 ?_
    have ob16 := (h.2 c15).1
    refine r_laload dX11_ask_89 (jro_ix (sh_r hS kk496 (by decide)) ob16) ?_
    have ob17 := (h.2 c15).2.1
    refine r_invS_i dX11_ask_90 (by decide) kXn11_317 kM11_317 (by decide) (Nat.le_of_ble_eq_true rfl) rfl rfl (Nat.le_of_ble_eq_true rfl) (Nat.le_of_ble_eq_true rfl) (d_lengthOf (by omega) hS ob17 ⟨_, rfl, ?_⟩)
    refine r_iadd dX11_ask_93 ?_
    have K23 : ∀ v18 : Int, v18 = (w32 ((w32 ((64 : Int) * l4)) + ((bl (lg M 496 (w32 ((w32 ((8 : Int) * l4)) + p)).toNat) : Nat) : Int))) → Run (e + 1) mX11_ask 94 [some (vR 468), some (vI p), some (vI l2), some (vI l3), some (vI l4), l5, l6, l7] [vI v18, vR 497] M Q := by
      intro v18 hv22
      refine r_iconst dX11_ask_94 (by decide) ?_
      refine r_isub dX11_ask_95 ?_
      refine r_dup2IR dX11_ask_96 ?_
      have ob19 := ((h.2 c15).2.2 v18 hv22).1
      refine r_iaload dX11_ask_97 (jro_ix (sh_r hS kk497 (by decide)) ob19) ?_
      refine r_iconst dX11_ask_98 (by decide) ?_
      refine r_iadd dX11_ask_99 ?_
      refine r_iastore dX11_ask_100 ⟨jro_ix (sh_r hS kk497 (by decide)) ob19, (by decide)⟩ ?_
      have K25 : ∀ N20 : jM, N20 = (si M 497 (w32 (v18 - (1 : Int))).toNat (w32 ((iv M 497 (w32 (v18 - (1 : Int))).toNat) + (1 : Int)))) → Run (e + 1) mX11_ask 101 [some (vR 468), some (vI p), some (vI l2), some (vI l3), some (vI l4), l5, l6, l7] [] N20 Q := by
        intro N20 hN24
        have sN21 : Shp N20 := by rw [hN24]; exact hS
        refine r_iinc (ls2 := [some (vR 468), some (vI p), some (vI l2), some (vI l3), some (vI (w32 (l4 + (1 : Int)))), l5, l6, l7]) dX11_ask_101 rfl rfl ?_
        refine r_goto (tgt := 62) dX11_ask_104 rfl ?_
        exact (((h.2 c15).2.2 v18 hv22).2 N20 hN24 sN21)
      exact K25 _ rfl
    exact K23 _ rfl
theorem vn_ask_121 {e : Nat} {M : jM} {Q : Option jV → jM → Prop} {p : Int} {l2 : Int} {l3 : Int} {l4 : Int} {l5 : Int} {l6 : Option jV} {l7 : Option jV}  (he : 6 ≤ e) (hS : Shp M)
  (h : (((8 : Int) < l5) → (Q (some (vI l3)) M)) ∧ (¬ ((8 : Int) < l5) → (((l2 ≤ (0 : Int)) → (Q (some (vI l3)) M)) ∧ (¬ (l2 ≤ (0 : Int)) → (Run (e + 1) mX11_ask 138 [some (vR 468), some (vI p), some (vI l2), some (vI l3), some (vI l4), some (vI l5), some (vI (0 : Int)), some (vI (0 : Int))] [] M Q))))) :
  Run (e + 1) mX11_ask 121 [some (vR 468), some (vI p), some (vI l2), some (vI l3), some (vI l4), some (vI l5), l6, l7] [] M Q := by
  refine r_iload dX11_ask_121 rfl ?_
  refine r_bipush dX11_ask_123 (by decide) ?_
  refine r_icmp_gt dX11_ask_125 rfl (fun c26 => ?_) (fun c26 => ?_)
  · refine r_iload_n dX11_ask_196 rfl ?_
    exact r_iret dX11_ask_197 rfl (h.1 c26)
  · refine r_iload_n dX11_ask_128 rfl ?_
    refine r_if_le dX11_ask_129 rfl (fun c27 => ?_) (fun c27 => ?_)
    · refine r_iload_n dX11_ask_196 rfl ?_
      exact r_iret dX11_ask_197 rfl ((h.2 c26).1 c27)
    · refine r_iconst dX11_ask_132 (by decide) ?_
      refine r_istore (ls2 := [some (vR 468), some (vI p), some (vI l2), some (vI l3), some (vI l4), some (vI l5), some (vI (0 : Int)), l7]) dX11_ask_133 (Nat.le_of_ble_eq_true rfl) rfl ?_
      refine r_iconst dX11_ask_135 (by decide) ?_
      refine r_istore (ls2 := [some (vR 468), some (vI p), some (vI l2), some (vI l3), some (vI l4), some (vI l5), some (vI (0 : Int)), some (vI (0 : Int))]) dX11_ask_136 (Nat.le_of_ble_eq_true rfl) rfl ?_
      exact ((h.2 c26).2 c27)
theorem vn_ask_138 {e : Nat} {M : jM} {Q : Option jV → jM → Prop} {p : Int} {l2 : Int} {l3 : Int} {l4 : Int} {l5 : Int} {l6 : Int} {l7 : Int}  (he : 6 ≤ e) (hS : Shp M)
  (h : (((64 : Int) ≤ l7) → (((l3 = (-1 : Int)) → (Run (e + 1) mX11_ask 121 [some (vR 468), some (vI p), some (vI l2), some (vI l5), some (vI l6), some (vI (w32 (l5 + (1 : Int)))), some (vI l6), some (vI l7)] [] M Q)) ∧ (¬ (l3 = (-1 : Int)) → (((l4 ≤ l6) → (Run (e + 1) mX11_ask 121 [some (vR 468), some (vI p), some (vI l2), some (vI l3), some (vI l4), some (vI (w32 (l5 + (1 : Int)))), some (vI l6), some (vI l7)] [] M Q)) ∧ (¬ (l4 ≤ l6) → (Run (e + 1) mX11_ask 121 [some (vR 468), some (vI p), some (vI l2), some (vI l5), some (vI l6), some (vI (w32 (l5 + (1 : Int)))), some (vI l6), some (vI l7)] [] M Q)))))) ∧ (¬ ((64 : Int) ≤ l7) → ((0 ≤ (w32 ((w32 ((64 : Int) * l5)) + l7)) ∧ (w32 ((w32 ((64 : Int) * l5)) + l7)) < 576) ∧ (∀ v32 : Int, v32 = (if l6 < (iv M 497 (w32 ((w32 ((64 : Int) * l5)) + l7)).toNat) then (iv M 497 (w32 ((w32 ((64 : Int) * l5)) + l7)).toNat) else l6) → (Run (e + 1) mX11_ask 138 [some (vR 468), some (vI p), some (vI l2), some (vI l3), some (vI l4), some (vI l5), some (vI v32), some (vI (w32 (l7 + (1 : Int))))] [] M Q))))) :
  Run (e + 1) mX11_ask 138 [some (vR 468), some (vI p), some (vI l2), some (vI l3), some (vI l4), some (vI l5), some (vI l6), some (vI l7)] [] M Q := by
  refine r_iload dX11_ask_138 rfl ?_
  refine r_bipush dX11_ask_140 (by decide) ?_
  refine r_icmp_ge dX11_ask_142 rfl (fun c28 => ?_) (fun c28 => ?_)
  · refine r_iload_n dX11_ask_171 rfl ?_
    refine r_iconst dX11_ask_172 (by decide) ?_
    refine r_icmp_eq dX11_ask_173 rfl (fun c29 => ?_) (fun c29 => ?_)
    · refine r_iload dX11_ask_183 rfl ?_
      refine r_istore_n (ls2 := [some (vR 468), some (vI p), some (vI l2), some (vI l5), some (vI l4), some (vI l5), some (vI l6), some (vI l7)]) dX11_ask_185 (Nat.le_of_ble_eq_true rfl) rfl ?_
      refine r_iload dX11_ask_186 rfl ?_
      refine r_istore (ls2 := [some (vR 468), some (vI p), some (vI l2), some (vI l5), some (vI l6), some (vI l5), some (vI l6), some (vI l7)]) dX11_ask_188 (Nat.le_of_ble_eq_true rfl) rfl ?_
      refine r_iinc (ls2 := [some (vR 468), some (vI p), some (vI l2), some (vI l5), some (vI l6), some (vI (w32 (l5 + (1 : Int)))), some (vI l6), some (vI l7)]) dX11_ask_190 rfl rfl ?_
      refine r_goto (tgt := 121) dX11_ask_193 rfl ?_
      exact ((h.1 c28).1 c29)
    · refine r_iload dX11_ask_176 rfl ?_
      refine r_iload dX11_ask_178 rfl ?_
      refine r_icmp_ge dX11_ask_180 rfl (fun c30 => ?_) (fun c30 => ?_)
      · refine r_iinc (ls2 := [some (vR 468), some (vI p), some (vI l2), some (vI l3), some (vI l4), some (vI (w32 (l5 + (1 : Int)))), some (vI l6), some (vI l7)]) dX11_ask_190 rfl rfl ?_
        refine r_goto (tgt := 121) dX11_ask_193 rfl ?_
        exact (((h.1 c28).2 c29).1 c30)
      · refine r_iload dX11_ask_183 rfl ?_
        refine r_istore_n (ls2 := [some (vR 468), some (vI p), some (vI l2), some (vI l5), some (vI l4), some (vI l5), some (vI l6), some (vI l7)]) dX11_ask_185 (Nat.le_of_ble_eq_true rfl) rfl ?_
        refine r_iload dX11_ask_186 rfl ?_
        refine r_istore (ls2 := [some (vR 468), some (vI p), some (vI l2), some (vI l5), some (vI l6), some (vI l5), some (vI l6), some (vI l7)]) dX11_ask_188 (Nat.le_of_ble_eq_true rfl) rfl ?_
        refine r_iinc (ls2 := [some (vR 468), some (vI p), some (vI l2), some (vI l5), some (vI l6), some (vI (w32 (l5 + (1 : Int)))), some (vI l6), some (vI l7)]) dX11_ask_190 rfl rfl ?_
        refine r_goto (tgt := 121) dX11_ask_193 rfl ?_
        exact (((h.1 c28).2 c29).2 c30)
  · refine r_iload dX11_ask_145 rfl ?_
    refine r_aload_n dX11_ask_147 rfl ?_
    refine r_getS (v := 497) dX11_ask_148 kF11_103 (sh_o hS kk468 (by decide)) (sh_f hS rr468_44 (by decide)) ?_
    refine r_bipush dX11_ask_151 (by decide) ?_
    refine r_iload dX11_ask_153 rfl ?_
    refine r_imul dX11_ask_155 ?_
    refine r_iload dX11_ask_156 rfl ?_
    refine r_iadd dX11_ask_158 ?_
    have ob31 := (h.2 c28).1
    refine r_iaload dX11_ask_159 (jro_ix (sh_r hS kk497 (by decide)) ob31) ?_
    refine r_math0 dX11_ask_160 (by decide) kX11_443 (Nat.le_of_ble_eq_true rfl) ?_
    have K34 : ∀ v32 : Int, v32 = (if l6 < (iv M 497 (w32 ((w32 ((64 : Int) * l5)) + l7)).toNat) then (iv M 497 (w32 ((w32 ((64 : Int) * l5)) + l7)).toNat) else l6) → Run (e + 1) mX11_ask 163 [some (vR 468), some (vI p), some (vI l2), some (vI l3), some (vI l4), some (vI l5), some (vI l6), some (vI l7)] [vI v32] M Q := by
      intro v32 hv33
      refine r_istore (ls2 := [some (vR 468), some (vI p), some (vI l2), some (vI l3), some (vI l4), some (vI l5), some (vI v32), some (vI l7)]) dX11_ask_163 (Nat.le_of_ble_eq_true rfl) rfl ?_
      refine r_iinc (ls2 := [some (vR 468), some (vI p), some (vI l2), some (vI l3), some (vI l4), some (vI l5), some (vI v32), some (vI (w32 (l7 + (1 : Int))))]) dX11_ask_165 rfl rfl ?_
      refine r_goto (tgt := 138) dX11_ask_168 rfl ?_
      exact ((h.2 c28).2 v32 hv33)
    exact K34 _ rfl
theorem vn_choose {e : Nat} {M : jM} {Q : Option jV → jM → Prop} {p : Int} {o : Int} {x : Int} (he : 6 ≤ e) (hS : Shp M)
  (h : ((x ≠ (1 : Int)) → (Run (e + 1) mX11_choose 35 [some (vR 468), some (vI p), some (vI o), some (vI x), some (vI (0 : Int))] [] M Q)) ∧ (¬ (x ≠ (1 : Int)) → ((0 ≤ p ∧ p < 8) ∧ ((((fGm (iv M 483 (3 * p + 2).toNat) (0 : Int)) = (0 : Int)) → (Run (e + 1) mX11_choose 35 [some (vR 468), some (vI p), some (vI o), some (vI x), some (vI (0 : Int))] [] M Q)) ∧ (¬ ((fGm (iv M 483 (3 * p + 2).toNat) (0 : Int)) = (0 : Int)) → (Call e mX11_emptyIn [vR 468, vI p] M (fun r7 M5 => ∃ z4 : Int, r7 = some (vI z4) ∧ Shp M5 ∧ (((z4 = (-1 : Int)) → (Run (e + 1) mX11_choose 35 [some (vR 468), some (vI p), some (vI o), some (vI x), some (vI (0 : Int))] [] M5 Q)) ∧ (¬ (z4 = (-1 : Int)) → (Call e mX11_putThought [vR 468, vI p, vI o, vI (0 : Int), vI (9 : Int)] M5 (fun r13 M11 => r13 = none ∧ Shp M11 ∧ (Run (e + 1) mX11_choose 35 [some (vR 468), some (vI p), some (vI o), some (vI x), some (vI (0 : Int))] [] M11 Q)))))))))))) :
  Call (e + 1) mX11_choose [vR 468, vI p, vI o, vI x] M Q := by
  show Run (e + 1) mX11_choose 0 [some (vR 468), some (vI p), some (vI o), some (vI x), none] [] M Q
  refine r_iload_n dX11_choose_0 rfl ?_
  refine r_iconst dX11_choose_1 (by decide) ?_
  refine r_icmp_ne dX11_choose_2 rfl (fun c1 => ?_) (fun c1 => ?_)
  · refine r_iconst dX11_choose_32 (by decide) ?_
    refine r_istore (ls2 := [some (vR 468), some (vI p), some (vI o), some (vI x), some (vI (0 : Int))]) dX11_choose_33 (Nat.le_of_ble_eq_true rfl) rfl ?_
    exact (h.1 c1)
  · refine r_aload_n dX11_choose_5 rfl ?_
    refine r_iload_n dX11_choose_6 rfl ?_
    refine r_iconst dX11_choose_7 (by decide) ?_
    have ob2 := (h.2 c1).1
    refine r_invV_i dX11_choose_8 kM11_375 (by decide) (Nat.le_of_ble_eq_true rfl) rfl rfl (Nat.le_of_ble_eq_true rfl) (Nat.le_of_ble_eq_true rfl) (sh_o hS kk468 (by decide)) (m_goesTo (by omega) hS ob2 ⟨_, rfl, ?_⟩)
    refine r_if_eq dX11_choose_11 rfl (fun c3 => ?_) (fun c3 => ?_)
    · refine r_iconst dX11_choose_32 (by decide) ?_
      refine r_istore (ls2 := [some (vR 468), some (vI p), some (vI o), some (vI x), some (vI (0 : Int))]) dX11_choose_33 (Nat.le_of_ble_eq_true rfl) rfl ?_
      exact ((h.2 c1).2.1 c3)
    · refine r_aload_n dX11_choose_14 rfl ?_
      refine r_iload_n dX11_choose_15 rfl ?_
      refine r_invV_i dX11_choose_16 kM11_274 (by decide) (Nat.le_of_ble_eq_true rfl) rfl rfl (Nat.le_of_ble_eq_true rfl) (Nat.le_of_ble_eq_true rfl) (sh_o hS kk468 (by decide)) (Call.mono ((h.2 c1).2.2 c3) (Nat.le_refl _) ?_)
      rintro _ M5 ⟨z4, rfl, s8, h6⟩
      refine ⟨_, rfl, ?_⟩
      refine r_iconst dX11_choose_19 (by decide) ?_
      refine r_icmp_eq dX11_choose_20 rfl (fun c9 => ?_) (fun c9 => ?_)
      · refine r_iconst dX11_choose_32 (by decide) ?_
        refine r_istore (ls2 := [some (vR 468), some (vI p), some (vI o), some (vI x), some (vI (0 : Int))]) dX11_choose_33 (Nat.le_of_ble_eq_true rfl) rfl ?_
        exact (h6.1 c9)
      · refine r_aload_n dX11_choose_23 rfl ?_
        refine r_iload_n dX11_choose_24 rfl ?_
        refine r_iload_n dX11_choose_25 rfl ?_
        refine r_iconst dX11_choose_26 (by decide) ?_
        refine r_bipush dX11_choose_27 (by decide) ?_
        refine r_invV_v dX11_choose_29 kM11_284 (by decide) (Nat.le_of_ble_eq_true rfl) rfl rfl (Nat.le_of_ble_eq_true rfl) (Nat.le_of_ble_eq_true rfl) (sh_o s8 kk468 (by decide)) (Call.mono (h6.2 c9) (Nat.le_refl _) ?_)
        rintro _ M11 ⟨rfl, s14, h12⟩
        refine ⟨rfl, ?_⟩
        refine r_iconst dX11_choose_32 (by decide) ?_
        refine r_istore (ls2 := [some (vR 468), some (vI p), some (vI o), some (vI x), some (vI (0 : Int))]) dX11_choose_33 (Nat.le_of_ble_eq_true rfl) rfl ?_
        exact h12
theorem vn_choose_35 {e : Nat} {M : jM} {Q : Option jV → jM → Prop} {p : Int} {o : Int} {x : Int} {l4 : Int}  (he : 6 ≤ e) (hS : Shp M)
  (h : (((4 : Int) ≤ l4) → (Q none M)) ∧ (¬ ((4 : Int) ≤ l4) → (((x ≠ (2 : Int)) → (Q none M)) ∧ (¬ (x ≠ (2 : Int)) → (((0 ≤ p ∧ p < 8) ∧ (0 ≤ l4 ∧ l4 < 4)) ∧ ((((if iv M 486 (20 * p + 5 * l4).toNat = 1 ∧ iv M 486 (20 * p + 5 * l4 + 1).toNat = o then (1 : Int) else (0 : Int)) = (0 : Int)) → (Run (e + 1) mX11_choose 35 [some (vR 468), some (vI p), some (vI o), some (vI x), some (vI (w32 (l4 + (1 : Int))))] [] M Q)) ∧ (¬ ((if iv M 486 (20 * p + 5 * l4).toNat = 1 ∧ iv M 486 (20 * p + 5 * l4 + 1).toNat = o then (1 : Int) else (0 : Int)) = (0 : Int)) → (∀ N19 : jM, N19 = (si M 486 (20 * p + 5 * l4 + (0 : Int)).toNat (0 : Int)) → Shp N19 → (Run (e + 1) mX11_choose 35 [some (vR 468), some (vI p), some (vI o), some (vI x), some (vI (w32 (l4 + (1 : Int))))] [] N19 Q))))))))) :
  Run (e + 1) mX11_choose 35 [some (vR 468), some (vI p), some (vI o), some (vI x), some (vI l4)] [] M Q := by
  refine r_iload dX11_choose_35 rfl ?_
  refine r_iconst dX11_choose_37 (by decide) ?_
  refine r_icmp_ge dX11_choose_38 rfl (fun c15 => ?_) (fun c15 => ?_)
  · exact r_vret dX11_choose_72 rfl (h.1 c15)
  · refine r_iload_n dX11_choose_41 rfl ?_
    refine r_iconst dX11_choose_42 (by decide) ?_
    refine r_icmp_ne dX11_choose_43 rfl (fun c16 => ?_) (fun c16 => ?_)
    · exact r_vret dX11_choose_72 rfl ((h.2 c15).1 c16)
    · refine r_aload_n dX11_choose_46 rfl ?_
      refine r_iload_n dX11_choose_47 rfl ?_
      refine r_iload dX11_choose_48 rfl ?_
      refine r_iload_n dX11_choose_50 rfl ?_
      have ob17 := ((h.2 c15).2 c16).1
      refine r_invV_i dX11_choose_51 kM11_331 (by decide) (Nat.le_of_ble_eq_true rfl) rfl rfl (Nat.le_of_ble_eq_true rfl) (Nat.le_of_ble_eq_true rfl) (sh_o hS kk468 (by decide)) (m_isOf (by omega) hS ob17 ⟨_, rfl, ?_⟩)
      refine r_if_eq dX11_choose_54 rfl (fun c18 => ?_) (fun c18 => ?_)
      · refine r_iinc (ls2 := [some (vR 468), some (vI p), some (vI o), some (vI x), some (vI (w32 (l4 + (1 : Int))))]) dX11_choose_66 rfl rfl ?_
        refine r_goto (tgt := 35) dX11_choose_69 rfl ?_
        exact (((h.2 c15).2 c16).2.1 c18)
      · refine r_aload_n dX11_choose_57 rfl ?_
        refine r_iload_n dX11_choose_58 rfl ?_
        refine r_iload dX11_choose_59 rfl ?_
        refine r_iconst dX11_choose_61 (by decide) ?_
        refine r_iconst dX11_choose_62 (by decide) ?_
        refine r_invV_v dX11_choose_63 kM11_277 (by decide) (Nat.le_of_ble_eq_true rfl) rfl rfl (Nat.le_of_ble_eq_true rfl) (Nat.le_of_ble_eq_true rfl) (sh_o hS kk468 (by decide)) (m_set (by omega) hS ⟨ob17.1, ob17.2, by decide⟩ ⟨rfl, ?_⟩)
        have K22 : ∀ N19 : jM, N19 = (si M 486 (20 * p + 5 * l4 + (0 : Int)).toNat (0 : Int)) → Run (e + 1) mX11_choose 66 [some (vR 468), some (vI p), some (vI o), some (vI x), some (vI l4)] [] N19 Q := by
          intro N19 hN21
          have sN20 : Shp N19 := by rw [hN21]; exact hS
          refine r_iinc (ls2 := [some (vR 468), some (vI p), some (vI o), some (vI x), some (vI (w32 (l4 + (1 : Int))))]) dX11_choose_66 rfl rfl ?_
          refine r_goto (tgt := 35) dX11_choose_69 rfl ?_
          exact ((((h.2 c15).2 c16).2.2 c18) N19 hN21 sN20)
        exact K22 _ rfl
theorem vn_gameOf {e : Nat} {M : jM} {Q : Option jV → jM → Prop} {p : Int} {o : Int} {x : Int} {y : Int} (he : 6 ≤ e) (hS : Shp M)
  (h : Call e mX11_putAside [vR 468, vI (0 : Int)] M (fun r4 M2 => r4 = none ∧ Shp M2 ∧ (Call e mX11_choose [vR 468, vI p, vI o, vI x] M2 (fun r9 M7 => r9 = none ∧ Shp M7 ∧ (Call e mX11_choose [vR 468, vI o, vI p, vI y] M7 (fun r14 M12 => r14 = none ∧ Shp M12 ∧ (Call e mX11_heftOf [vR 468, vI p] M12 (fun r19 M17 => ∃ z16 : Int, r19 = some (vI z16) ∧ Shp M17 ∧ (Call e mX11_heftOf [vR 468, vI o] M17 (fun r24 M22 => ∃ z21 : Int, r24 = some (vI z21) ∧ Shp M22 ∧ (Call e mX11_doesFloat [vR 468, vI o] M22 (fun r29 M27 => ∃ z26 : Int, r29 = some (vI z26) ∧ Shp M27 ∧ (∀ v31 : Int, v31 = (w32 ((w32 (z16 - z21)) + (if z26 = (0 : Int) then (0 : Int) else (2 : Int)))) → (Call e mX11_takeBack [vR 468, vI (0 : Int)] M27 (fun r35 M33 => r35 = none ∧ Shp M33 ∧ (Q (some (vI v31)) M33)))))))))))))))) :
  Call (e + 1) mX11_gameOf [vR 468, vI p, vI o, vI x, vI y] M Q := by
  show Run (e + 1) mX11_gameOf 0 [some (vR 468), some (vI p), some (vI o), some (vI x), some (vI y), none] [] M Q
  refine r_aload_n dX11_gameOf_0 rfl ?_
  refine r_iconst dX11_gameOf_1 (by decide) ?_
  refine r_invV_v dX11_gameOf_2 kM11_404 (by decide) (Nat.le_of_ble_eq_true rfl) rfl rfl (Nat.le_of_ble_eq_true rfl) (Nat.le_of_ble_eq_true rfl) (sh_o hS kk468 (by decide)) (Call.mono h (Nat.le_refl _) ?_)
  rintro _ M2 ⟨rfl, s5, h3⟩
  refine ⟨rfl, ?_⟩
  refine r_aload_n dX11_gameOf_5 rfl ?_
  refine r_iload_n dX11_gameOf_6 rfl ?_
  refine r_iload_n dX11_gameOf_7 rfl ?_
  refine r_iload_n dX11_gameOf_8 rfl ?_
  refine r_invV_v dX11_gameOf_9 kM11_445 (by decide) (Nat.le_of_ble_eq_true rfl) rfl rfl (Nat.le_of_ble_eq_true rfl) (Nat.le_of_ble_eq_true rfl) (sh_o s5 kk468 (by decide)) (Call.mono h3 (Nat.le_refl _) ?_)
  rintro _ M7 ⟨rfl, s10, h8⟩
  refine ⟨rfl, ?_⟩
  refine r_aload_n dX11_gameOf_12 rfl ?_
  refine r_iload_n dX11_gameOf_13 rfl ?_
  refine r_iload_n dX11_gameOf_14 rfl ?_
  refine r_iload dX11_gameOf_15 rfl ?_
  refine r_invV_v dX11_gameOf_17 kM11_445 (by decide) (Nat.le_of_ble_eq_true rfl) rfl rfl (Nat.le_of_ble_eq_true rfl) (Nat.le_of_ble_eq_true rfl) (sh_o s10 kk468 (by decide)) (Call.mono h8 (Nat.le_refl _) ?_)
  rintro _ M12 ⟨rfl, s15, h13⟩
  refine ⟨rfl, ?_⟩
  refine r_aload_n dX11_gameOf_20 rfl ?_
  refine r_iload_n dX11_gameOf_21 rfl ?_
  refine r_invV_i dX11_gameOf_22 kM11_369 (by decide) (Nat.le_of_ble_eq_true rfl) rfl rfl (Nat.le_of_ble_eq_true rfl) (Nat.le_of_ble_eq_true rfl) (sh_o s15 kk468 (by decide)) (Call.mono h13 (Nat.le_refl _) ?_)
  rintro _ M17 ⟨z16, rfl, s20, h18⟩
  refine ⟨_, rfl, ?_⟩
  refine r_aload_n dX11_gameOf_25 rfl ?_
  refine r_iload_n dX11_gameOf_26 rfl ?_
  refine r_invV_i dX11_gameOf_27 kM11_369 (by decide) (Nat.le_of_ble_eq_true rfl) rfl rfl (Nat.le_of_ble_eq_true rfl) (Nat.le_of_ble_eq_true rfl) (sh_o s20 kk468 (by decide)) (Call.mono h18 (Nat.le_refl _) ?_)
  rintro _ M22 ⟨z21, rfl, s25, h23⟩
  refine ⟨_, rfl, ?_⟩
  refine r_isub dX11_gameOf_30 ?_
  refine r_aload_n dX11_gameOf_31 rfl ?_
  refine r_iload_n dX11_gameOf_32 rfl ?_
  refine r_invV_i dX11_gameOf_33 kM11_346 (by decide) (Nat.le_of_ble_eq_true rfl) rfl rfl (Nat.le_of_ble_eq_true rfl) (Nat.le_of_ble_eq_true rfl) (sh_o s25 kk468 (by decide)) (Call.mono h23 (Nat.le_refl _) ?_)
  rintro _ M27 ⟨z26, rfl, s30, h28⟩
  refine ⟨_, rfl, ?_⟩
  have K37 : Run (e + 1) mX11_gameOf 44 [some (vR 468), some (vI p), some (vI o), some (vI x), some (vI y), none] [vI (if z26 = (0 : Int) then (0 : Int) else (2 : Int)), vI (w32 (z16 - z21))] M27 Q := by
    refine r_iadd dX11_gameOf_44 ?_
    have K39 : ∀ v31 : Int, v31 = (w32 ((w32 (z16 - z21)) + (if z26 = (0 : Int) then (0 : Int) else (2 : Int)))) → Run (e + 1) mX11_gameOf 45 [some (vR 468), some (vI p), some (vI o), some (vI x), some (vI y), none] [vI v31] M27 Q := by
      intro v31 hv38
      refine r_istore (ls2 := [some (vR 468), some (vI p), some (vI o), some (vI x), some (vI y), some (vI v31)]) dX11_gameOf_45 (Nat.le_of_ble_eq_true rfl) rfl ?_
      refine r_aload_n dX11_gameOf_47 rfl ?_
      refine r_iconst dX11_gameOf_48 (by decide) ?_
      refine r_invV_v dX11_gameOf_49 kM11_407 (by decide) (Nat.le_of_ble_eq_true rfl) rfl rfl (Nat.le_of_ble_eq_true rfl) (Nat.le_of_ble_eq_true rfl) (sh_o s30 kk468 (by decide)) (Call.mono (h28 v31 hv38) (Nat.le_refl _) ?_)
      rintro _ M33 ⟨rfl, s36, h34⟩
      refine ⟨rfl, ?_⟩
      refine r_iload dX11_gameOf_52 rfl ?_
      exact r_iret dX11_gameOf_54 rfl h34
    exact K39 _ rfl
  refine r_if_eq dX11_gameOf_36 rfl (fun q40 => ?_) (fun q40 => ?_)
  · rw [if_pos q40] at K37
    refine r_iconst dX11_gameOf_43 (by decide) ?_
    exact K37
  · rw [if_neg q40] at K37
    refine r_iconst dX11_gameOf_39 (by decide) ?_
    refine r_goto (tgt := 44) dX11_gameOf_40 rfl ?_
    exact K37
theorem vn_game {e : Nat} {M : jM} {Q : Option jV → jM → Prop} {p : Int} {q : Int} {x : Int} {y : Int} {w : Int} (he : 8 ≤ e) (hS : Shp M)
  (h : (((if fIn p 0 (w32 (iv M 468 25 - 1)) = 1 ∧ fIn q 0 (w32 (iv M 468 25 - 1)) = 1 ∧ p ≠ q then (1 : Int) else (0 : Int)) = (0 : Int)) → (Q (some (vI (-1000000 : Int))) M)) ∧ (¬ ((if fIn p 0 (w32 (iv M 468 25 - 1)) = 1 ∧ fIn q 0 (w32 (iv M 468 25 - 1)) = 1 ∧ p ≠ q then (1 : Int) else (0 : Int)) = (0 : Int)) → ((((fIn x (0 : Int) (2 : Int)) = (0 : Int)) → (Q (some (vI (-1000000 : Int))) M)) ∧ (¬ ((fIn x (0 : Int) (2 : Int)) = (0 : Int)) → ((((fIn y (0 : Int) (2 : Int)) = (0 : Int)) → (Q (some (vI (-1000000 : Int))) M)) ∧ (¬ ((fIn y (0 : Int) (2 : Int)) = (0 : Int)) → ((((fIn w (0 : Int) (1 : Int)) ≠ (0 : Int)) → (((w ≠ (0 : Int)) → (Call e mX11_gameOf [vR 468, vI q, vI p, vI y, vI x] M (fun r9 M7 => ∃ z6 : Int, r9 = some (vI z6) ∧ Shp M7 ∧ (Q (some (vI z6)) M7)))) ∧ (¬ (w ≠ (0 : Int)) → (Call e mX11_gameOf [vR 468, vI p, vI q, vI x, vI y] M (fun r14 M12 => ∃ z11 : Int, r14 = some (vI z11) ∧ Shp M12 ∧ (Q (some (vI z11)) M12)))))) ∧ (¬ ((fIn w (0 : Int) (1 : Int)) ≠ (0 : Int)) → (Q (some (vI (-1000000 : Int))) M))))))))) :
  Call (e + 1) mX11_game [vR 468, vI p, vI q, vI x, vI y, vI w] M Q := by
  show Run (e + 1) mX11_game 0 [some (vR 468), some (vI p), some (vI q), some (vI x), some (vI y), some (vI w)] [] M Q
  refine r_aload_n dX11_game_0 rfl ?_
  refine r_iload_n dX11_game_1 rfl ?_
  refine r_iload_n dX11_game_2 rfl ?_
  refine r_invV_i dX11_game_3 kM11_431 (by decide) (Nat.le_of_ble_eq_true rfl) rfl rfl (Nat.le_of_ble_eq_true rfl) (Nat.le_of_ble_eq_true rfl) (sh_o hS kk468 (by decide)) (m_areTwo (by omega) hS ⟨_, rfl, ?_⟩)
  refine r_if_eq dX11_game_6 rfl (fun c1 => ?_) (fun c1 => ?_)
  · refine r_ldc_w dX11_game_38 kK11_449 ?_
    exact r_iret dX11_game_41 rfl (h.1 c1)
  · refine r_iload_n dX11_game_9 rfl ?_
    refine r_iconst dX11_game_10 (by decide) ?_
    refine r_iconst dX11_game_11 (by decide) ?_
    refine r_invS_i dX11_game_12 (by decide) kXn11_224 kM11_224 (by decide) (Nat.le_of_ble_eq_true rfl) rfl rfl (Nat.le_of_ble_eq_true rfl) (Nat.le_of_ble_eq_true rfl) (m_in (by omega) hS ⟨_, rfl, ?_⟩)
    refine r_if_eq dX11_game_15 rfl (fun c2 => ?_) (fun c2 => ?_)
    · refine r_ldc_w dX11_game_38 kK11_449 ?_
      exact r_iret dX11_game_41 rfl ((h.2 c1).1 c2)
    · refine r_iload dX11_game_18 rfl ?_
      refine r_iconst dX11_game_20 (by decide) ?_
      refine r_iconst dX11_game_21 (by decide) ?_
      refine r_invS_i dX11_game_22 (by decide) kXn11_224 kM11_224 (by decide) (Nat.le_of_ble_eq_true rfl) rfl rfl (Nat.le_of_ble_eq_true rfl) (Nat.le_of_ble_eq_true rfl) (m_in (by omega) hS ⟨_, rfl, ?_⟩)
      refine r_if_eq dX11_game_25 rfl (fun c3 => ?_) (fun c3 => ?_)
      · refine r_ldc_w dX11_game_38 kK11_449 ?_
        exact r_iret dX11_game_41 rfl (((h.2 c1).2 c2).1 c3)
      · refine r_iload dX11_game_28 rfl ?_
        refine r_iconst dX11_game_30 (by decide) ?_
        refine r_iconst dX11_game_31 (by decide) ?_
        refine r_invS_i dX11_game_32 (by decide) kXn11_224 kM11_224 (by decide) (Nat.le_of_ble_eq_true rfl) rfl rfl (Nat.le_of_ble_eq_true rfl) (Nat.le_of_ble_eq_true rfl) (m_in (by omega) hS ⟨_, rfl, ?_⟩)
        refine r_if_ne dX11_game_35 rfl (fun c4 => ?_) (fun c4 => ?_)
        · refine r_iload dX11_game_42 rfl ?_
          refine r_if_ne dX11_game_44 rfl (fun c5 => ?_) (fun c5 => ?_)
          · refine r_aload_n dX11_game_59 rfl ?_
            refine r_iload_n dX11_game_60 rfl ?_
            refine r_iload_n dX11_game_61 rfl ?_
            refine r_iload dX11_game_62 rfl ?_
            refine r_iload_n dX11_game_64 rfl ?_
            refine r_invV_i dX11_game_65 kM11_450 (by decide) (Nat.le_of_ble_eq_true rfl) rfl rfl (Nat.le_of_ble_eq_true rfl) (Nat.le_of_ble_eq_true rfl) (sh_o hS kk468 (by decide)) (Call.mono (((((h.2 c1).2 c2).2 c3).1 c4).1 c5) (Nat.le_refl _) ?_)
            rintro _ M7 ⟨z6, rfl, s10, h8⟩
            refine ⟨_, rfl, ?_⟩
            exact r_iret dX11_game_68 rfl h8
          · refine r_aload_n dX11_game_47 rfl ?_
            refine r_iload_n dX11_game_48 rfl ?_
            refine r_iload_n dX11_game_49 rfl ?_
            refine r_iload_n dX11_game_50 rfl ?_
            refine r_iload dX11_game_51 rfl ?_
            refine r_invV_i dX11_game_53 kM11_450 (by decide) (Nat.le_of_ble_eq_true rfl) rfl rfl (Nat.le_of_ble_eq_true rfl) (Nat.le_of_ble_eq_true rfl) (sh_o hS kk468 (by decide)) (Call.mono (((((h.2 c1).2 c2).2 c3).1 c4).2 c5) (Nat.le_refl _) ?_)
            rintro _ M12 ⟨z11, rfl, s15, h13⟩
            refine ⟨_, rfl, ?_⟩
            refine r_goto (tgt := 68) dX11_game_56 rfl ?_
            exact r_iret dX11_game_68 rfl h13
        · refine r_ldc_w dX11_game_38 kK11_449 ?_
          exact r_iret dX11_game_41 rfl ((((h.2 c1).2 c2).2 c3).2 c4)
theorem vn_isRest {e : Nat} {M : jM} {Q : Option jV → jM → Prop} {p : Int} {q : Int} {x : Int} {y : Int} (he : 6 ≤ e) (hS : Shp M)
  (h : Run (e + 1) mX11_isRest 3 [some (vR 468), some (vI p), some (vI q), some (vI x), some (vI y), some (vI (0 : Int))] [] M Q) :
  Call (e + 1) mX11_isRest [vR 468, vI p, vI q, vI x, vI y] M Q := by
  show Run (e + 1) mX11_isRest 0 [some (vR 468), some (vI p), some (vI q), some (vI x), some (vI y), none] [] M Q
  refine r_iconst dX11_isRest_0 (by decide) ?_
  refine r_istore (ls2 := [some (vR 468), some (vI p), some (vI q), some (vI x), some (vI y), some (vI (0 : Int))]) dX11_isRest_1 (Nat.le_of_ble_eq_true rfl) rfl ?_
  exact h
theorem vn_isRest_3 {e : Nat} {M : jM} {Q : Option jV → jM → Prop} {p : Int} {q : Int} {x : Int} {y : Int} {l5 : Int}  (he : 6 ≤ e) (hS : Shp M)
  (h : (((3 : Int) ≤ l5) → (Q (some (vI (1 : Int))) M)) ∧ (¬ ((3 : Int) ≤ l5) → (Call e mX11_gameOf [vR 468, vI p, vI q, vI l5, vI y] M (fun r5 M3 => ∃ z2 : Int, r5 = some (vI z2) ∧ Shp M3 ∧ (Call e mX11_gameOf [vR 468, vI p, vI q, vI x, vI y] M3 (fun r10 M8 => ∃ z7 : Int, r10 = some (vI z7) ∧ Shp M8 ∧ (((z7 < z2) → (Q (some (vI (0 : Int))) M8)) ∧ (¬ (z7 < z2) → (Call e mX11_gameOf [vR 468, vI q, vI p, vI l5, vI x] M8 (fun r16 M14 => ∃ z13 : Int, r16 = some (vI z13) ∧ Shp M14 ∧ (Call e mX11_gameOf [vR 468, vI q, vI p, vI y, vI x] M14 (fun r21 M19 => ∃ z18 : Int, r21 = some (vI z18) ∧ Shp M19 ∧ (((z13 ≤ z18) → (Run (e + 1) mX11_isRest 3 [some (vR 468), some (vI p), some (vI q), some (vI x), some (vI y), some (vI (w32 (l5 + (1 : Int))))] [] M19 Q)) ∧ (¬ (z13 ≤ z18) → (Q (some (vI (0 : Int))) M19))))))))))))))) :
  Run (e + 1) mX11_isRest 3 [some (vR 468), some (vI p), some (vI q), some (vI x), some (vI y), some (vI l5)] [] M Q := by
  refine r_iload dX11_isRest_3 rfl ?_
  refine r_iconst dX11_isRest_5 (by decide) ?_
  refine r_icmp_ge dX11_isRest_6 rfl (fun c1 => ?_) (fun c1 => ?_)
  · refine r_iconst dX11_isRest_60 (by decide) ?_
    exact r_zret dX11_isRest_61 rfl (by decide) (h.1 c1)
  · refine r_aload_n dX11_isRest_9 rfl ?_
    refine r_iload_n dX11_isRest_10 rfl ?_
    refine r_iload_n dX11_isRest_11 rfl ?_
    refine r_iload dX11_isRest_12 rfl ?_
    refine r_iload dX11_isRest_14 rfl ?_
    refine r_invV_i dX11_isRest_16 kM11_450 (by decide) (Nat.le_of_ble_eq_true rfl) rfl rfl (Nat.le_of_ble_eq_true rfl) (Nat.le_of_ble_eq_true rfl) (sh_o hS kk468 (by decide)) (Call.mono (h.2 c1) (Nat.le_refl _) ?_)
    rintro _ M3 ⟨z2, rfl, s6, h4⟩
    refine ⟨_, rfl, ?_⟩
    refine r_aload_n dX11_isRest_19 rfl ?_
    refine r_iload_n dX11_isRest_20 rfl ?_
    refine r_iload_n dX11_isRest_21 rfl ?_
    refine r_iload_n dX11_isRest_22 rfl ?_
    refine r_iload dX11_isRest_23 rfl ?_
    refine r_invV_i dX11_isRest_25 kM11_450 (by decide) (Nat.le_of_ble_eq_true rfl) rfl rfl (Nat.le_of_ble_eq_true rfl) (Nat.le_of_ble_eq_true rfl) (sh_o s6 kk468 (by decide)) (Call.mono h4 (Nat.le_refl _) ?_)
    rintro _ M8 ⟨z7, rfl, s11, h9⟩
    refine ⟨_, rfl, ?_⟩
    refine r_icmp_gt dX11_isRest_28 rfl (fun c12 => ?_) (fun c12 => ?_)
    · refine r_iconst dX11_isRest_52 (by decide) ?_
      exact r_zret dX11_isRest_53 rfl (by decide) (h9.1 c12)
    · refine r_aload_n dX11_isRest_31 rfl ?_
      refine r_iload_n dX11_isRest_32 rfl ?_
      refine r_iload_n dX11_isRest_33 rfl ?_
      refine r_iload dX11_isRest_34 rfl ?_
      refine r_iload_n dX11_isRest_36 rfl ?_
      refine r_invV_i dX11_isRest_37 kM11_450 (by decide) (Nat.le_of_ble_eq_true rfl) rfl rfl (Nat.le_of_ble_eq_true rfl) (Nat.le_of_ble_eq_true rfl) (sh_o s11 kk468 (by decide)) (Call.mono (h9.2 c12) (Nat.le_refl _) ?_)
      rintro _ M14 ⟨z13, rfl, s17, h15⟩
      refine ⟨_, rfl, ?_⟩
      refine r_aload_n dX11_isRest_40 rfl ?_
      refine r_iload_n dX11_isRest_41 rfl ?_
      refine r_iload_n dX11_isRest_42 rfl ?_
      refine r_iload dX11_isRest_43 rfl ?_
      refine r_iload_n dX11_isRest_45 rfl ?_
      refine r_invV_i dX11_isRest_46 kM11_450 (by decide) (Nat.le_of_ble_eq_true rfl) rfl rfl (Nat.le_of_ble_eq_true rfl) (Nat.le_of_ble_eq_true rfl) (sh_o s17 kk468 (by decide)) (Call.mono h15 (Nat.le_refl _) ?_)
      rintro _ M19 ⟨z18, rfl, s22, h20⟩
      refine ⟨_, rfl, ?_⟩
      refine r_icmp_le dX11_isRest_49 rfl (fun c23 => ?_) (fun c23 => ?_)
      · refine r_iinc (ls2 := [some (vR 468), some (vI p), some (vI q), some (vI x), some (vI y), some (vI (w32 (l5 + (1 : Int))))]) dX11_isRest_54 rfl rfl ?_
        refine r_goto (tgt := 3) dX11_isRest_57 rfl ?_
        exact (h20.1 c23)
      · refine r_iconst dX11_isRest_52 (by decide) ?_
        exact r_zret dX11_isRest_53 rfl (by decide) (h20.2 c23)
theorem vn_rests {e : Nat} {M : jM} {Q : Option jV → jM → Prop} {p : Int} {q : Int} {i : Int} (he : 8 ≤ e) (hS : Shp M)
  (h : (((if fIn p 0 (w32 (iv M 468 25 - 1)) = 1 ∧ fIn q 0 (w32 (iv M 468 25 - 1)) = 1 ∧ p ≠ q then (1 : Int) else (0 : Int)) = (0 : Int)) → (Q (some (vI (-1 : Int))) M)) ∧ (¬ ((if fIn p 0 (w32 (iv M 468 25 - 1)) = 1 ∧ fIn q 0 (w32 (iv M 468 25 - 1)) = 1 ∧ p ≠ q then (1 : Int) else (0 : Int)) = (0 : Int)) → ((((-1 : Int) ≤ i) → (Run (e + 1) mX11_rests 22 [some (vR 468), some (vI p), some (vI q), some (vI i), some (vI (0 : Int)), some (vI (0 : Int))] [] M Q)) ∧ (¬ ((-1 : Int) ≤ i) → (Q (some (vI (-1 : Int))) M))))) :
  Call (e + 1) mX11_rests [vR 468, vI p, vI q, vI i] M Q := by
  show Run (e + 1) mX11_rests 0 [some (vR 468), some (vI p), some (vI q), some (vI i), none, none] [] M Q
  refine r_aload_n dX11_rests_0 rfl ?_
  refine r_iload_n dX11_rests_1 rfl ?_
  refine r_iload_n dX11_rests_2 rfl ?_
  refine r_invV_i dX11_rests_3 kM11_431 (by decide) (Nat.le_of_ble_eq_true rfl) rfl rfl (Nat.le_of_ble_eq_true rfl) (Nat.le_of_ble_eq_true rfl) (sh_o hS kk468 (by decide)) (m_areTwo (by omega) hS ⟨_, rfl, ?_⟩)
  refine r_if_eq dX11_rests_6 rfl (fun c1 => ?_) (fun c1 => ?_)
  · refine r_iconst dX11_rests_14 (by decide) ?_
    exact r_iret dX11_rests_15 rfl (h.1 c1)
  · refine r_iload_n dX11_rests_9 rfl ?_
    refine r_iconst dX11_rests_10 (by decide) ?_
    refine r_icmp_ge dX11_rests_11 rfl (fun c2 => ?_) (fun c2 => ?_)
    · refine r_iconst dX11_rests_16 (by decide) ?_
      refine r_istore (ls2 := [some (vR 468), some (vI p), some (vI q), some (vI i), some (vI (0 : Int)), none]) dX11_rests_17 (Nat.le_of_ble_eq_true rfl) rfl ?_
      refine r_iconst dX11_rests_19 (by decide) ?_
      refine r_istore (ls2 := [some (vR 468), some (vI p), some (vI q), some (vI i), some (vI (0 : Int)), some (vI (0 : Int))]) dX11_rests_20 (Nat.le_of_ble_eq_true rfl) rfl ?_
      exact ((h.2 c1).1 c2)
    · refine r_iconst dX11_rests_14 (by decide) ?_
      exact r_iret dX11_rests_15 rfl ((h.2 c1).2 c2)
theorem vn_rests_22 {e : Nat} {M : jM} {Q : Option jV → jM → Prop} {p : Int} {q : Int} {i : Int} {l4 : Int} {l5 : Int}  (he : 8 ≤ e) (hS : Shp M)
  (h : (((9 : Int) ≤ l5) → (Q (some (vI (if i ≠ (-1 : Int) then (-1 : Int) else l4))) M)) ∧ (¬ ((9 : Int) ≤ l5) → (Call e mX11_isRest [vR 468, vI p, vI q, vI (jdiv l5 (3 : Int)), vI (jrem l5 (3 : Int))] M (fun r7 M5 => ∃ z4 : Int, r7 = some (vI z4) ∧ Shp M5 ∧ (((z4 = (0 : Int)) → (Run (e + 1) mX11_rests 22 [some (vR 468), some (vI p), some (vI q), some (vI i), some (vI l4), some (vI (w32 (l5 + (1 : Int))))] [] M5 Q)) ∧ (¬ (z4 = (0 : Int)) → (((l4 ≠ i) → (Run (e + 1) mX11_rests 22 [some (vR 468), some (vI p), some (vI q), some (vI i), some (vI (w32 (l4 + (1 : Int)))), some (vI (w32 (l5 + (1 : Int))))] [] M5 Q)) ∧ (¬ (l4 ≠ i) → (Q (some (vI (w32 ((w32 ((10 : Int) * (jdiv l5 (3 : Int)))) + (jrem l5 (3 : Int)))))) M5))))))))) :
  Run (e + 1) mX11_rests 22 [some (vR 468), some (vI p), some (vI q), some (vI i), some (vI l4), some (vI l5)] [] M Q := by
  refine r_iload dX11_rests_22 rfl ?_
  refine r_bipush dX11_rests_24 (by decide) ?_
  refine r_icmp_ge dX11_rests_26 rfl (fun c3 => ?_) (fun c3 => ?_)
  · refine r_iload_n dX11_rests_74 rfl ?_
    refine r_iconst dX11_rests_75 (by decide) ?_
    have K11 : Run (e + 1) mX11_rests 85 [some (vR 468), some (vI p), some (vI q), some (vI i), some (vI l4), some (vI l5)] [vI (if i ≠ (-1 : Int) then (-1 : Int) else l4)] M Q := by
      exact r_iret dX11_rests_85 rfl (h.1 c3)
    refine r_icmp_ne dX11_rests_76 rfl (fun q12 => ?_) (fun q12 => ?_)
    · rw [if_pos q12] at K11
      refine r_iconst dX11_rests_84 (by decide) ?_
      exact K11
    · rw [if_neg q12] at K11
      refine r_iload dX11_rests_79 rfl ?_
      refine r_goto (tgt := 85) dX11_rests_81 rfl ?_
      exact K11
  · refine r_aload_n dX11_rests_29 rfl ?_
    refine r_iload_n dX11_rests_30 rfl ?_
    refine r_iload_n dX11_rests_31 rfl ?_
    refine r_iload dX11_rests_32 rfl ?_
    refine r_iconst dX11_rests_34 (by decide) ?_
    refine r_idiv dX11_rests_35 (by decide) ?_
    refine r_iload dX11_rests_36 rfl ?_
    refine r_iconst dX11_rests_38 (by decide) ?_
    refine r_irem dX11_rests_39 (by decide) ?_
    refine r_invV_i dX11_rests_40 kM11_454 (by decide) (Nat.le_of_ble_eq_true rfl) rfl rfl (Nat.le_of_ble_eq_true rfl) (Nat.le_of_ble_eq_true rfl) (sh_o hS kk468 (by decide)) (Call.mono (h.2 c3) (Nat.le_refl _) ?_)
    rintro _ M5 ⟨z4, rfl, s8, h6⟩
    refine ⟨_, rfl, ?_⟩
    refine r_if_eq dX11_rests_43 rfl (fun c9 => ?_) (fun c9 => ?_)
    · refine r_iinc (ls2 := [some (vR 468), some (vI p), some (vI q), some (vI i), some (vI l4), some (vI (w32 (l5 + (1 : Int))))]) dX11_rests_68 rfl rfl ?_
      refine r_goto (tgt := 22) dX11_rests_71 rfl ?_
      exact (h6.1 c9)
    · refine r_iload dX11_rests_46 rfl ?_
      refine r_iload_n dX11_rests_48 rfl ?_
      refine r_icmp_ne dX11_rests_49 rfl (fun c10 => ?_) (fun c10 => ?_)
      · refine r_iinc (ls2 := [some (vR 468), some (vI p), some (vI q), some (vI i), some (vI (w32 (l4 + (1 : Int)))), some (vI l5)]) dX11_rests_65 rfl rfl ?_
        refine r_iinc (ls2 := [some (vR 468), some (vI p), some (vI q), some (vI i), some (vI (w32 (l4 + (1 : Int)))), some (vI (w32 (l5 + (1 : Int))))]) dX11_rests_68 rfl rfl ?_
        refine r_goto (tgt := 22) dX11_rests_71 rfl ?_
        exact ((h6.2 c9).1 c10)
      · refine r_bipush dX11_rests_52 (by decide) ?_
        refine r_iload dX11_rests_54 rfl ?_
        refine r_iconst dX11_rests_56 (by decide) ?_
        refine r_idiv dX11_rests_57 (by decide) ?_
        refine r_imul dX11_rests_58 ?_
        refine r_iload dX11_rests_59 rfl ?_
        refine r_iconst dX11_rests_61 (by decide) ?_
        refine r_irem dX11_rests_62 (by decide) ?_
        refine r_iadd dX11_rests_63 ?_
        exact r_iret dX11_rests_64 rfl ((h6.2 c9).2 c10)
theorem vn_tuneUp {e : Nat} {M : jM} {Q : Option jV → jM → Prop} {w : Int} (he : 6 ≤ e) (hS : Shp M)
  (h : Run (e + 1) mX11_tuneUp 2 [some (vR 468), some (vI w), some (vI (0 : Int)), none] [] M Q) :
  Call (e + 1) mX11_tuneUp [vR 468, vI w] M Q := by
  show Run (e + 1) mX11_tuneUp 0 [some (vR 468), some (vI w), none, none] [] M Q
  refine r_iconst dX11_tuneUp_0 (by decide) ?_
  refine r_istore_n (ls2 := [some (vR 468), some (vI w), some (vI (0 : Int)), none]) dX11_tuneUp_1 (Nat.le_of_ble_eq_true rfl) rfl ?_
  exact h
theorem vn_tuneUp_2 {e : Nat} {M : jM} {Q : Option jV → jM → Prop} {w : Int} {l2 : Int} {l3 : Option jV}  (he : 6 ≤ e) (hS : Shp M)
  (h : (((iv M 468 25) ≤ l2) → (Q none M)) ∧ (¬ ((iv M 468 25) ≤ l2) → (Run (e + 1) mX11_tuneUp 12 [some (vR 468), some (vI w), some (vI l2), some (vI (0 : Int))] [] M Q))) :
  Run (e + 1) mX11_tuneUp 2 [some (vR 468), some (vI w), some (vI l2), l3] [] M Q := by
  refine r_iload_n dX11_tuneUp_2 rfl ?_
  refine r_aload_n dX11_tuneUp_3 rfl ?_
  refine r_get0 dX11_tuneUp_4 kF11_287 (sh_o hS kk468 (by decide)) ?_
  refine r_icmp_ge dX11_tuneUp_7 rfl (fun c1 => ?_) (fun c1 => ?_)
  · exact r_vret dX11_tuneUp_58 rfl (h.1 c1)
  · refine r_iconst dX11_tuneUp_10 (by decide) ?_
    refine r_istore_n (ls2 := [some (vR 468), some (vI w), some (vI l2), some (vI (0 : Int))]) dX11_tuneUp_11 (Nat.le_of_ble_eq_true rfl) rfl ?_
    exact (h.2 c1)
theorem vn_tuneUp_12 {e : Nat} {M : jM} {Q : Option jV → jM → Prop} {w : Int} {l2 : Int} {l3 : Int}  (he : 6 ≤ e) (hS : Shp M)
  (h : (((4 : Int) ≤ l3) → (Run (e + 1) mX11_tuneUp 2 [some (vR 468), some (vI w), some (vI (w32 (l2 + (1 : Int)))), some (vI l3)] [] M Q)) ∧ (¬ ((4 : Int) ≤ l3) → (((0 ≤ l2 ∧ l2 < 8) ∧ (0 ≤ l3 ∧ l3 < 4)) ∧ ((((if iv M 486 (20 * l2 + 5 * l3).toNat = 1 ∧ iv M 486 (20 * l2 + 5 * l3 + 1).toNat = w then (1 : Int) else (0 : Int)) = (0 : Int)) → (Run (e + 1) mX11_tuneUp 12 [some (vR 468), some (vI w), some (vI l2), some (vI (w32 (l3 + (1 : Int))))] [] M Q)) ∧ (¬ ((if iv M 486 (20 * l2 + 5 * l3).toNat = 1 ∧ iv M 486 (20 * l2 + 5 * l3 + 1).toNat = w then (1 : Int) else (0 : Int)) = (0 : Int)) → ((((iv M 486 (20 * l2 + 5 * l3 + (2 : Int)).toNat) ≠ (2 : Int)) → (Run (e + 1) mX11_tuneUp 12 [some (vR 468), some (vI w), some (vI l2), some (vI (w32 (l3 + (1 : Int))))] [] M Q)) ∧ (¬ ((iv M 486 (20 * l2 + 5 * l3 + (2 : Int)).toNat) ≠ (2 : Int)) → (∀ N6 : jM, N6 = (si M 486 (20 * l2 + 5 * l3 + (4 : Int)).toNat (0 : Int)) → Shp N6 → (Run (e + 1) mX11_tuneUp 12 [some (vR 468), some (vI w), some (vI l2), some (vI (w32 (l3 + (1 : Int))))] [] N6 Q))))))))) :
  Run (e + 1) mX11_tuneUp 12 [some (vR 468), some (vI w), some (vI l2), some (vI l3)] [] M Q := by
  refine r_iload_n dX11_tuneUp_12 rfl ?_
  refine r_iconst dX11_tuneUp_13 (by decide) ?_
  refine r_icmp_ge dX11_tuneUp_14 rfl (fun c2 => ?_) (fun c2 => ?_)
  · refine r_iinc (ls2 := [some (vR 468), some (vI w), some (vI (w32 (l2 + (1 : Int)))), some (vI l3)]) dX11_tuneUp_52 rfl rfl ?_
    refine r_goto (tgt := 2) dX11_tuneUp_55 rfl ?_
    exact (h.1 c2)
  · refine r_aload_n dX11_tuneUp_17 rfl ?_
    refine r_iload_n dX11_tuneUp_18 rfl ?_
    refine r_iload_n dX11_tuneUp_19 rfl ?_
    refine r_iload_n dX11_tuneUp_20 rfl ?_
    have ob3 := (h.2 c2).1
    refine r_invV_i dX11_tuneUp_21 kM11_331 (by decide) (Nat.le_of_ble_eq_true rfl) rfl rfl (Nat.le_of_ble_eq_true rfl) (Nat.le_of_ble_eq_true rfl) (sh_o hS kk468 (by decide)) (m_isOf (by omega) hS ob3 ⟨_, rfl, ?_⟩)
    refine r_if_eq dX11_tuneUp_24 rfl (fun c4 => ?_) (fun c4 => ?_)
    · refine r_iinc (ls2 := [some (vR 468), some (vI w), some (vI l2), some (vI (w32 (l3 + (1 : Int))))]) dX11_tuneUp_46 rfl rfl ?_
      refine r_goto (tgt := 12) dX11_tuneUp_49 rfl ?_
      exact ((h.2 c2).2.1 c4)
    · refine r_aload_n dX11_tuneUp_27 rfl ?_
      refine r_iload_n dX11_tuneUp_28 rfl ?_
      refine r_iload_n dX11_tuneUp_29 rfl ?_
      refine r_iconst dX11_tuneUp_30 (by decide) ?_
      refine r_invV_i dX11_tuneUp_31 kM11_271 (by decide) (Nat.le_of_ble_eq_true rfl) rfl rfl (Nat.le_of_ble_eq_true rfl) (Nat.le_of_ble_eq_true rfl) (sh_o hS kk468 (by decide)) (m_of (by omega) hS ⟨ob3.1, ob3.2, by decide⟩ ⟨_, rfl, ?_⟩)
      refine r_iconst dX11_tuneUp_34 (by decide) ?_
      refine r_icmp_ne dX11_tuneUp_35 rfl (fun c5 => ?_) (fun c5 => ?_)
      · refine r_iinc (ls2 := [some (vR 468), some (vI w), some (vI l2), some (vI (w32 (l3 + (1 : Int))))]) dX11_tuneUp_46 rfl rfl ?_
        refine r_goto (tgt := 12) dX11_tuneUp_49 rfl ?_
        exact (((h.2 c2).2.2 c4).1 c5)
      · refine r_aload_n dX11_tuneUp_38 rfl ?_
        refine r_iload_n dX11_tuneUp_39 rfl ?_
        refine r_iload_n dX11_tuneUp_40 rfl ?_
        refine r_iconst dX11_tuneUp_41 (by decide) ?_
        refine r_iconst dX11_tuneUp_42 (by decide) ?_
        refine r_invV_v dX11_tuneUp_43 kM11_277 (by decide) (Nat.le_of_ble_eq_true rfl) rfl rfl (Nat.le_of_ble_eq_true rfl) (Nat.le_of_ble_eq_true rfl) (sh_o hS kk468 (by decide)) (m_set (by omega) hS ⟨ob3.1, ob3.2, by decide⟩ ⟨rfl, ?_⟩)
        have K9 : ∀ N6 : jM, N6 = (si M 486 (20 * l2 + 5 * l3 + (4 : Int)).toNat (0 : Int)) → Run (e + 1) mX11_tuneUp 46 [some (vR 468), some (vI w), some (vI l2), some (vI l3)] [] N6 Q := by
          intro N6 hN8
          have sN7 : Shp N6 := by rw [hN8]; exact hS
          refine r_iinc (ls2 := [some (vR 468), some (vI w), some (vI l2), some (vI (w32 (l3 + (1 : Int))))]) dX11_tuneUp_46 rfl rfl ?_
          refine r_goto (tgt := 12) dX11_tuneUp_49 rfl ?_
          exact ((((h.2 c2).2.2 c4).2 c5) N6 hN8 sN7)
        exact K9 _ rfl
theorem vn_oddsFrom {e : Nat} {M : jM} {Q : Option jV → jM → Prop} {dp : Int} {p : Int} {lf : Int} {ch : Int} {pt : Int} (he : 6 ≤ e) (hS : Shp M)
  (h : ((lf ≠ (0 : Int)) → (Call e mX11_putAside [vR 468, vI dp] M (fun r5 M3 => r5 = none ∧ Shp M3 ∧ (Run (e + 1) mX11_oddsFrom 44 [some (vR 468), some (vI dp), some (vI p), some (vI lf), some (vI ch), some (vI pt), some (vI (w32 (jdivL (w64 (pt * ch)) (100 : Int)))), some (vI (0 : Int)), some (vI (0 : Int))] [] M3 Q)))) ∧ (¬ (lf ≠ (0 : Int)) → (Call e mX11_doesFloat [vR 468, vI p] M (fun r10 M8 => ∃ z7 : Int, r10 = some (vI z7) ∧ Shp M8 ∧ (Q (some (vI (if z7 = (0 : Int) then (0 : Int) else pt))) M8))))) :
  Call (e + 1) mX11_oddsFrom [vR 468, vI dp, vI p, vI lf, vI ch, vI pt] M Q := by
  show Run (e + 1) mX11_oddsFrom 0 [some (vR 468), some (vI dp), some (vI p), some (vI lf), some (vI ch), some (vI pt), none, none, none] [] M Q
  refine r_iload_n dX11_oddsFrom_0 rfl ?_
  refine r_if_ne dX11_oddsFrom_1 rfl (fun c1 => ?_) (fun c1 => ?_)
  · refine r_iload dX11_oddsFrom_19 rfl ?_
    refine r_i2l dX11_oddsFrom_21 ?_
    refine r_iload dX11_oddsFrom_22 rfl ?_
    refine r_i2l dX11_oddsFrom_24 ?_
    refine r_lmul dX11_oddsFrom_25 ?_
    refine r_ldc2 dX11_oddsFrom_26 kL11_458 ?_
    refine r_ldiv dX11_oddsFrom_29 (by decide) ?_
    refine r_l2i dX11_oddsFrom_30 ?_
    refine r_istore (ls2 := [some (vR 468), some (vI dp), some (vI p), some (vI lf), some (vI ch), some (vI pt), some (vI (w32 (jdivL (w64 (pt * ch)) (100 : Int)))), none, none]) dX11_oddsFrom_31 (Nat.le_of_ble_eq_true rfl) rfl ?_
    refine r_iconst dX11_oddsFrom_33 (by decide) ?_
    refine r_istore (ls2 := [some (vR 468), some (vI dp), some (vI p), some (vI lf), some (vI ch), some (vI pt), some (vI (w32 (jdivL (w64 (pt * ch)) (100 : Int)))), some (vI (0 : Int)), none]) dX11_oddsFrom_34 (Nat.le_of_ble_eq_true rfl) rfl ?_
    refine r_aload_n dX11_oddsFrom_36 rfl ?_
    refine r_iload_n dX11_oddsFrom_37 rfl ?_
    refine r_invV_v dX11_oddsFrom_38 kM11_404 (by decide) (Nat.le_of_ble_eq_true rfl) rfl rfl (Nat.le_of_ble_eq_true rfl) (Nat.le_of_ble_eq_true rfl) (sh_o hS kk468 (by decide)) (Call.mono (h.1 c1) (Nat.le_refl _) ?_)
    rintro _ M3 ⟨rfl, s6, h4⟩
    refine ⟨rfl, ?_⟩
    refine r_iconst dX11_oddsFrom_41 (by decide) ?_
    refine r_istore (ls2 := [some (vR 468), some (vI dp), some (vI p), some (vI lf), some (vI ch), some (vI pt), some (vI (w32 (jdivL (w64 (pt * ch)) (100 : Int)))), some (vI (0 : Int)), some (vI (0 : Int))]) dX11_oddsFrom_42 (Nat.le_of_ble_eq_true rfl) rfl ?_
    exact h4
  · refine r_aload_n dX11_oddsFrom_4 rfl ?_
    refine r_iload_n dX11_oddsFrom_5 rfl ?_
    refine r_invV_i dX11_oddsFrom_6 kM11_346 (by decide) (Nat.le_of_ble_eq_true rfl) rfl rfl (Nat.le_of_ble_eq_true rfl) (Nat.le_of_ble_eq_true rfl) (sh_o hS kk468 (by decide)) (Call.mono (h.2 c1) (Nat.le_refl _) ?_)
    rintro _ M8 ⟨z7, rfl, s11, h9⟩
    refine ⟨_, rfl, ?_⟩
    have K12 : Run (e + 1) mX11_oddsFrom 18 [some (vR 468), some (vI dp), some (vI p), some (vI lf), some (vI ch), some (vI pt), none, none, none] [vI (if z7 = (0 : Int) then (0 : Int) else pt)] M8 Q := by
      exact r_iret dX11_oddsFrom_18 rfl h9
    refine r_if_eq dX11_oddsFrom_9 rfl (fun q13 => ?_) (fun q13 => ?_)
    · rw [if_pos q13] at K12
      refine r_iconst dX11_oddsFrom_17 (by decide) ?_
      exact K12
    · rw [if_neg q13] at K12
      refine r_iload dX11_oddsFrom_12 rfl ?_
      refine r_goto (tgt := 18) dX11_oddsFrom_14 rfl ?_
      exact K12
theorem vn_oddsFrom_44 {e : Nat} {M : jM} {Q : Option jV → jM → Prop} {dp : Int} {p : Int} {lf : Int} {ch : Int} {pt : Int} {l6 : Int} {l7 : Int} {l8 : Int}  (he : 6 ≤ e) (hS : Shp M)
  (h : (((2 : Int) ≤ l8) → (Q (some (vI l7)) M)) ∧ (¬ ((2 : Int) ≤ l8) → (((l8 ≠ (1 : Int)) → (Call e mX11_live [vR 468] M (fun r20 M18 => r20 = none ∧ Shp M18 ∧ (Call e mX11_oddsFrom [vR 468, vI (w32 (dp + (1 : Int))), vI p, vI (w32 (lf - (1 : Int))), vI ch, vI (if l8 ≠ (1 : Int) then w32 (pt - l6) else l6)] M18 (fun r25 M23 => ∃ z22 : Int, r25 = some (vI z22) ∧ Shp M23 ∧ (Call e mX11_takeBack [vR 468, vI dp] M23 (fun r30 M28 => r30 = none ∧ Shp M28 ∧ (Run (e + 1) mX11_oddsFrom 44 [some (vR 468), some (vI dp), some (vI p), some (vI lf), some (vI ch), some (vI pt), some (vI l6), some (vI (w32 (l7 + z22))), some (vI (w32 (l8 + (1 : Int))))] [] M28 Q)))))))) ∧ (¬ (l8 ≠ (1 : Int)) → (Call e mX11_tuneUp [vR 468, vI p] M (fun r35 M33 => r35 = none ∧ Shp M33 ∧ (Call e mX11_live [vR 468] M33 (fun r40 M38 => r40 = none ∧ Shp M38 ∧ (Call e mX11_oddsFrom [vR 468, vI (w32 (dp + (1 : Int))), vI p, vI (w32 (lf - (1 : Int))), vI ch, vI (if l8 ≠ (1 : Int) then w32 (pt - l6) else l6)] M38 (fun r45 M43 => ∃ z42 : Int, r45 = some (vI z42) ∧ Shp M43 ∧ (Call e mX11_takeBack [vR 468, vI dp] M43 (fun r50 M48 => r50 = none ∧ Shp M48 ∧ (Run (e + 1) mX11_oddsFrom 44 [some (vR 468), some (vI dp), some (vI p), some (vI lf), some (vI ch), some (vI pt), some (vI l6), some (vI (w32 (l7 + z42))), some (vI (w32 (l8 + (1 : Int))))] [] M48 Q))))))))))))) :
  Run (e + 1) mX11_oddsFrom 44 [some (vR 468), some (vI dp), some (vI p), some (vI lf), some (vI ch), some (vI pt), some (vI l6), some (vI l7), some (vI l8)] [] M Q := by
  refine r_iload dX11_oddsFrom_44 rfl ?_
  refine r_iconst dX11_oddsFrom_46 (by decide) ?_
  refine r_icmp_ge dX11_oddsFrom_47 rfl (fun c15 => ?_) (fun c15 => ?_)
  · refine r_iload dX11_oddsFrom_110 rfl ?_
    exact r_iret dX11_oddsFrom_112 rfl (h.1 c15)
  · refine r_iload dX11_oddsFrom_50 rfl ?_
    refine r_iconst dX11_oddsFrom_52 (by decide) ?_
    refine r_icmp_ne dX11_oddsFrom_53 rfl (fun c16 => ?_) (fun c16 => ?_)
    · refine r_aload_n dX11_oddsFrom_61 rfl ?_
      refine r_invV_v dX11_oddsFrom_62 kM11_354 (by decide) (Nat.le_of_ble_eq_true rfl) rfl rfl (Nat.le_of_ble_eq_true rfl) (Nat.le_of_ble_eq_true rfl) (sh_o hS kk468 (by decide)) (Call.mono ((h.2 c15).1 c16) (Nat.le_refl _) ?_)
      rintro _ M18 ⟨rfl, s21, h19⟩
      refine ⟨rfl, ?_⟩
      refine r_iload dX11_oddsFrom_65 rfl ?_
      refine r_aload_n dX11_oddsFrom_67 rfl ?_
      refine r_iload_n dX11_oddsFrom_68 rfl ?_
      refine r_iconst dX11_oddsFrom_69 (by decide) ?_
      refine r_iadd dX11_oddsFrom_70 ?_
      refine r_iload_n dX11_oddsFrom_71 rfl ?_
      refine r_iload_n dX11_oddsFrom_72 rfl ?_
      refine r_iconst dX11_oddsFrom_73 (by decide) ?_
      refine r_isub dX11_oddsFrom_74 ?_
      refine r_iload dX11_oddsFrom_75 rfl ?_
      refine r_iload dX11_oddsFrom_77 rfl ?_
      refine r_iconst dX11_oddsFrom_79 (by decide) ?_
      have K52 : Run (e + 1) mX11_oddsFrom 93 [some (vR 468), some (vI dp), some (vI p), some (vI lf), some (vI ch), some (vI pt), some (vI l6), some (vI l7), some (vI l8)] [vI (if l8 ≠ (1 : Int) then w32 (pt - l6) else l6), vI ch, vI (w32 (lf - (1 : Int))), vI p, vI (w32 (dp + (1 : Int))), vR 468, vI l7] M18 Q := by
        refine r_invV_i dX11_oddsFrom_93 kM11_463 (by decide) (Nat.le_of_ble_eq_true rfl) rfl rfl (Nat.le_of_ble_eq_true rfl) (Nat.le_of_ble_eq_true rfl) (sh_o s21 kk468 (by decide)) (Call.mono h19 (Nat.le_refl _) ?_)
        rintro _ M23 ⟨z22, rfl, s26, h24⟩
        refine ⟨_, rfl, ?_⟩
        refine r_iadd dX11_oddsFrom_96 ?_
        refine r_istore (ls2 := [some (vR 468), some (vI dp), some (vI p), some (vI lf), some (vI ch), some (vI pt), some (vI l6), some (vI (w32 (l7 + z22))), some (vI l8)]) dX11_oddsFrom_97 (Nat.le_of_ble_eq_true rfl) rfl ?_
        refine r_aload_n dX11_oddsFrom_99 rfl ?_
        refine r_iload_n dX11_oddsFrom_100 rfl ?_
        refine r_invV_v dX11_oddsFrom_101 kM11_407 (by decide) (Nat.le_of_ble_eq_true rfl) rfl rfl (Nat.le_of_ble_eq_true rfl) (Nat.le_of_ble_eq_true rfl) (sh_o s26 kk468 (by decide)) (Call.mono h24 (Nat.le_refl _) ?_)
        rintro _ M28 ⟨rfl, s31, h29⟩
        refine ⟨rfl, ?_⟩
        refine r_iinc (ls2 := [some (vR 468), some (vI dp), some (vI p), some (vI lf), some (vI ch), some (vI pt), some (vI l6), some (vI (w32 (l7 + z22))), some (vI (w32 (l8 + (1 : Int))))]) dX11_oddsFrom_104 rfl rfl ?_
        refine r_goto (tgt := 44) dX11_oddsFrom_107 rfl ?_
        exact h29
      refine r_icmp_ne dX11_oddsFrom_80 rfl (fun q53 => ?_) (fun q53 => ?_)
      · rw [if_pos q53] at K52
        refine r_iload dX11_oddsFrom_88 rfl ?_
        refine r_iload dX11_oddsFrom_90 rfl ?_
        refine r_isub dX11_oddsFrom_92 ?_
        exact K52
      · rw [if_neg q53] at K52
        refine r_iload dX11_oddsFrom_83 rfl ?_
        refine r_goto (tgt := 93) dX11_oddsFrom_85 rfl ?_
        exact K52
    · refine r_aload_n dX11_oddsFrom_56 rfl ?_
      refine r_iload_n dX11_oddsFrom_57 rfl ?_
      refine r_invV_v dX11_oddsFrom_58 kM11_460 (by decide) (Nat.le_of_ble_eq_true rfl) rfl rfl (Nat.le_of_ble_eq_true rfl) (Nat.le_of_ble_eq_true rfl) (sh_o hS kk468 (by decide)) (Call.mono ((h.2 c15).2 c16) (Nat.le_refl _) ?_)
      rintro _ M33 ⟨rfl, s36, h34⟩
      refine ⟨rfl, ?_⟩
      refine r_aload_n dX11_oddsFrom_61 rfl ?_
      refine r_invV_v dX11_oddsFrom_62 kM11_354 (by decide) (Nat.le_of_ble_eq_true rfl) rfl rfl (Nat.le_of_ble_eq_true rfl) (Nat.le_of_ble_eq_true rfl) (sh_o s36 kk468 (by decide)) (Call.mono h34 (Nat.le_refl _) ?_)
      rintro _ M38 ⟨rfl, s41, h39⟩
      refine ⟨rfl, ?_⟩
      refine r_iload dX11_oddsFrom_65 rfl ?_
      refine r_aload_n dX11_oddsFrom_67 rfl ?_
      refine r_iload_n dX11_oddsFrom_68 rfl ?_
      refine r_iconst dX11_oddsFrom_69 (by decide) ?_
      refine r_iadd dX11_oddsFrom_70 ?_
      refine r_iload_n dX11_oddsFrom_71 rfl ?_
      refine r_iload_n dX11_oddsFrom_72 rfl ?_
      refine r_iconst dX11_oddsFrom_73 (by decide) ?_
      refine r_isub dX11_oddsFrom_74 ?_
      refine r_iload dX11_oddsFrom_75 rfl ?_
      refine r_iload dX11_oddsFrom_77 rfl ?_
      refine r_iconst dX11_oddsFrom_79 (by decide) ?_
      have K55 : Run (e + 1) mX11_oddsFrom 93 [some (vR 468), some (vI dp), some (vI p), some (vI lf), some (vI ch), some (vI pt), some (vI l6), some (vI l7), some (vI l8)] [vI (if l8 ≠ (1 : Int) then w32 (pt - l6) else l6), vI ch, vI (w32 (lf - (1 : Int))), vI p, vI (w32 (dp + (1 : Int))), vR 468, vI l7] M38 Q := by
        refine r_invV_i dX11_oddsFrom_93 kM11_463 (by decide) (Nat.le_of_ble_eq_true rfl) rfl rfl (Nat.le_of_ble_eq_true rfl) (Nat.le_of_ble_eq_true rfl) (sh_o s41 kk468 (by decide)) (Call.mono h39 (Nat.le_refl _) ?_)
        rintro _ M43 ⟨z42, rfl, s46, h44⟩
        refine ⟨_, rfl, ?_⟩
        refine r_iadd dX11_oddsFrom_96 ?_
        refine r_istore (ls2 := [some (vR 468), some (vI dp), some (vI p), some (vI lf), some (vI ch), some (vI pt), some (vI l6), some (vI (w32 (l7 + z42))), some (vI l8)]) dX11_oddsFrom_97 (Nat.le_of_ble_eq_true rfl) rfl ?_
        refine r_aload_n dX11_oddsFrom_99 rfl ?_
        refine r_iload_n dX11_oddsFrom_100 rfl ?_
        refine r_invV_v dX11_oddsFrom_101 kM11_407 (by decide) (Nat.le_of_ble_eq_true rfl) rfl rfl (Nat.le_of_ble_eq_true rfl) (Nat.le_of_ble_eq_true rfl) (sh_o s46 kk468 (by decide)) (Call.mono h44 (Nat.le_refl _) ?_)
        rintro _ M48 ⟨rfl, s51, h49⟩
        refine ⟨rfl, ?_⟩
        refine r_iinc (ls2 := [some (vR 468), some (vI dp), some (vI p), some (vI lf), some (vI ch), some (vI pt), some (vI l6), some (vI (w32 (l7 + z42))), some (vI (w32 (l8 + (1 : Int))))]) dX11_oddsFrom_104 rfl rfl ?_
        refine r_goto (tgt := 44) dX11_oddsFrom_107 rfl ?_
        exact h49
      refine r_icmp_ne dX11_oddsFrom_80 rfl (fun q56 => ?_) (fun q56 => ?_)
      · rw [if_pos q56] at K55
        refine r_iload dX11_oddsFrom_88 rfl ?_
        refine r_iload dX11_oddsFrom_90 rfl ?_
        refine r_isub dX11_oddsFrom_92 ?_
        exact K55
      · rw [if_neg q56] at K55
        refine r_iload dX11_oddsFrom_83 rfl ?_
        refine r_goto (tgt := 93) dX11_oddsFrom_85 rfl ?_
        exact K55
theorem vn_odds {e : Nat} {M : jM} {Q : Option jV → jM → Prop} {p : Int} {n : Int} {ch : Int} (he : 6 ≤ e) (hS : Shp M)
  (h : (((fIn p 0 (w32 (iv M 468 25 - 1))) = (0 : Int)) → (Q (some (vI (-1 : Int))) M)) ∧ (¬ ((fIn p 0 (w32 (iv M 468 25 - 1))) = (0 : Int)) → ((((fIn n (0 : Int) (6 : Int)) = (0 : Int)) → (Q (some (vI (-1 : Int))) M)) ∧ (¬ ((fIn n (0 : Int) (6 : Int)) = (0 : Int)) → ((((fIn ch (0 : Int) (100 : Int)) ≠ (0 : Int)) → (Call e mX11_oddsFrom [vR 468, vI (0 : Int), vI p, vI n, vI ch, vI (1000000000 : Int)] M (fun r7 M5 => ∃ z4 : Int, r7 = some (vI z4) ∧ Shp M5 ∧ (Q (some (vI z4)) M5)))) ∧ (¬ ((fIn ch (0 : Int) (100 : Int)) ≠ (0 : Int)) → (Q (some (vI (-1 : Int))) M))))))) :
  Call (e + 1) mX11_odds [vR 468, vI p, vI n, vI ch] M Q := by
  show Run (e + 1) mX11_odds 0 [some (vR 468), some (vI p), some (vI n), some (vI ch)] [] M Q
  refine r_aload_n dX11_odds_0 rfl ?_
  refine r_iload_n dX11_odds_1 rfl ?_
  refine r_invV_i dX11_odds_2 kM11_309 (by decide) (Nat.le_of_ble_eq_true rfl) rfl rfl (Nat.le_of_ble_eq_true rfl) (Nat.le_of_ble_eq_true rfl) (sh_o hS kk468 (by decide)) (m_isPerson (by omega) hS ⟨_, rfl, ?_⟩)
  refine r_if_eq dX11_odds_5 rfl (fun c1 => ?_) (fun c1 => ?_)
  · refine r_iconst dX11_odds_28 (by decide) ?_
    exact r_iret dX11_odds_29 rfl (h.1 c1)
  · refine r_iload_n dX11_odds_8 rfl ?_
    refine r_iconst dX11_odds_9 (by decide) ?_
    refine r_bipush dX11_odds_10 (by decide) ?_
    refine r_invS_i dX11_odds_12 (by decide) kXn11_224 kM11_224 (by decide) (Nat.le_of_ble_eq_true rfl) rfl rfl (Nat.le_of_ble_eq_true rfl) (Nat.le_of_ble_eq_true rfl) (m_in (by omega) hS ⟨_, rfl, ?_⟩)
    refine r_if_eq dX11_odds_15 rfl (fun c2 => ?_) (fun c2 => ?_)
    · refine r_iconst dX11_odds_28 (by decide) ?_
      exact r_iret dX11_odds_29 rfl ((h.2 c1).1 c2)
    · refine r_iload_n dX11_odds_18 rfl ?_
      refine r_iconst dX11_odds_19 (by decide) ?_
      refine r_bipush dX11_odds_20 (by decide) ?_
      refine r_invS_i dX11_odds_22 (by decide) kXn11_224 kM11_224 (by decide) (Nat.le_of_ble_eq_true rfl) rfl rfl (Nat.le_of_ble_eq_true rfl) (Nat.le_of_ble_eq_true rfl) (m_in (by omega) hS ⟨_, rfl, ?_⟩)
      refine r_if_ne dX11_odds_25 rfl (fun c3 => ?_) (fun c3 => ?_)
      · refine r_aload_n dX11_odds_30 rfl ?_
        refine r_iconst dX11_odds_31 (by decide) ?_
        refine r_iload_n dX11_odds_32 rfl ?_
        refine r_iload_n dX11_odds_33 rfl ?_
        refine r_iload_n dX11_odds_34 rfl ?_
        refine r_ldc_w dX11_odds_35 kK11_467 ?_
        refine r_invV_i dX11_odds_38 kM11_463 (by decide) (Nat.le_of_ble_eq_true rfl) rfl rfl (Nat.le_of_ble_eq_true rfl) (Nat.le_of_ble_eq_true rfl) (sh_o hS kk468 (by decide)) (Call.mono (((h.2 c1).2 c2).1 c3) (Nat.le_refl _) ?_)
        rintro _ M5 ⟨z4, rfl, s8, h6⟩
        refine ⟨_, rfl, ?_⟩
        exact r_iret dX11_odds_41 rfl h6
      · refine r_iconst dX11_odds_28 (by decide) ?_
        exact r_iret dX11_odds_29 rfl (((h.2 c1).2 c2).2 c3)
theorem vn_shares {e : Nat} {M : jM} {Q : Option jV → jM → Prop} {p : Int} {c : Int} (he : 6 ≤ e) (hS : Shp M)
  (h : (((fIn p 0 (w32 (iv M 468 25 - 1))) = (0 : Int)) → (Q (some (vI (-1 : Int))) M)) ∧ (¬ ((fIn p 0 (w32 (iv M 468 25 - 1))) = (0 : Int)) → ((((fIn c (0 : Int) (999 : Int)) ≠ (0 : Int)) → (Run (e + 1) mX11_shares 26 [some (vR 468), some (vI p), some (vI c), some (vL (0 : Int)), none, some (vI (0 : Int))] [] M Q)) ∧ (¬ ((fIn c (0 : Int) (999 : Int)) ≠ (0 : Int)) → (Q (some (vI (-1 : Int))) M))))) :
  Call (e + 1) mX11_shares [vR 468, vI p, vI c] M Q := by
  show Run (e + 1) mX11_shares 0 [some (vR 468), some (vI p), some (vI c), none, none, none] [] M Q
  refine r_aload_n dX11_shares_0 rfl ?_
  refine r_iload_n dX11_shares_1 rfl ?_
  refine r_invV_i dX11_shares_2 kM11_309 (by decide) (Nat.le_of_ble_eq_true rfl) rfl rfl (Nat.le_of_ble_eq_true rfl) (Nat.le_of_ble_eq_true rfl) (sh_o hS kk468 (by decide)) (m_isPerson (by omega) hS ⟨_, rfl, ?_⟩)
  refine r_if_eq dX11_shares_5 rfl (fun c1 => ?_) (fun c1 => ?_)
  · refine r_iconst dX11_shares_19 (by decide) ?_
    exact r_iret dX11_shares_20 rfl (h.1 c1)
  · refine r_iload_n dX11_shares_8 rfl ?_
    refine r_iconst dX11_shares_9 (by decide) ?_
    refine r_sipush dX11_shares_10 (by decide) ?_
    refine r_invS_i dX11_shares_13 (by decide) kXn11_224 kM11_224 (by decide) (Nat.le_of_ble_eq_true rfl) rfl rfl (Nat.le_of_ble_eq_true rfl) (Nat.le_of_ble_eq_true rfl) (m_in (by omega) hS ⟨_, rfl, ?_⟩)
    refine r_if_ne dX11_shares_16 rfl (fun c2 => ?_) (fun c2 => ?_)
    · refine r_lconst0 dX11_shares_21 ?_
      refine r_lstore_n (ls2 := [some (vR 468), some (vI p), some (vI c), some (vL (0 : Int)), none, none]) dX11_shares_22 (Nat.le_of_ble_eq_true rfl) rfl ?_
      refine r_iconst dX11_shares_23 (by decide) ?_
      refine r_istore (ls2 := [some (vR 468), some (vI p), some (vI c), some (vL (0 : Int)), none, some (vI (0 : Int))]) dX11_shares_24 (Nat.le_of_ble_eq_true rfl) rfl ?_
      exact ((h.2 c1).1 c2)
    · refine r_iconst dX11_shares_19 (by decide) ?_
      exact r_iret dX11_shares_20 rfl ((h.2 c1).2 c2)
theorem vn_shares_26 {e : Nat} {M : jM} {Q : Option jV → jM → Prop} {p : Int} {c : Int} {l3 : Int} {l5 : Int}  (he : 6 ≤ e) (hS : Shp M)
  (h : (((iv M 468 25) ≤ l5) → (Call e mX11_weightOf [vR 468, vI p] M (fun r7 M5 => ∃ z4 : Int, r7 = some (vL z4) ∧ Shp M5 ∧ (l3 ≠ 0 ∧ (Q (some (vI (w32 (jdivL (w64 (c * (fTm z4))) l3)))) M5))))) ∧ (¬ ((iv M 468 25) ≤ l5) → (Call e mX11_weightOf [vR 468, vI l5] M (fun r13 M11 => ∃ z10 : Int, r13 = some (vL z10) ∧ Shp M11 ∧ (Run (e + 1) mX11_shares 26 [some (vR 468), some (vI p), some (vI c), some (vL (w64 (l3 + (fTm z10)))), none, some (vI (w32 (l5 + (1 : Int))))] [] M11 Q))))) :
  Run (e + 1) mX11_shares 26 [some (vR 468), some (vI p), some (vI c), some (vL l3), none, some (vI l5)] [] M Q := by
  refine r_iload dX11_shares_26 rfl ?_
  refine r_aload_n dX11_shares_28 rfl ?_
  refine r_get0 dX11_shares_29 kF11_287 (sh_o hS kk468 (by decide)) ?_
  refine r_icmp_ge dX11_shares_32 rfl (fun c3 => ?_) (fun c3 => ?_)
  · refine r_iload_n dX11_shares_54 rfl ?_
    refine r_i2l dX11_shares_55 ?_
    refine r_aload_n dX11_shares_56 rfl ?_
    refine r_iload_n dX11_shares_57 rfl ?_
    refine r_invV_l dX11_shares_58 kM11_340 (by decide) (Nat.le_of_ble_eq_true rfl) rfl rfl (Nat.le_of_ble_eq_true rfl) (Nat.le_of_ble_eq_true rfl) (sh_o hS kk468 (by decide)) (Call.mono (h.1 c3) (Nat.le_refl _) ?_)
    rintro _ M5 ⟨z4, rfl, s8, h6⟩
    refine ⟨_, rfl, ?_⟩
    refine r_invS_i dX11_shares_61 (by decide) kXn11_366 kM11_366 (by decide) (Nat.le_of_ble_eq_true rfl) rfl rfl (Nat.le_of_ble_eq_true rfl) (Nat.le_of_ble_eq_true rfl) (m_asTold (by omega) s8 ⟨_, rfl, ?_⟩)
    refine r_i2l dX11_shares_64 ?_
    refine r_lmul dX11_shares_65 ?_
    refine r_lload_n dX11_shares_66 rfl ?_
    have ob9 := h6.1
    refine r_ldiv dX11_shares_67 ob9 ?_
    refine r_l2i dX11_shares_68 ?_
    exact r_iret dX11_shares_69 rfl h6.2
  · refine r_lload_n dX11_shares_35 rfl ?_
    refine r_aload_n dX11_shares_36 rfl ?_
    refine r_iload dX11_shares_37 rfl ?_
    refine r_invV_l dX11_shares_39 kM11_340 (by decide) (Nat.le_of_ble_eq_true rfl) rfl rfl (Nat.le_of_ble_eq_true rfl) (Nat.le_of_ble_eq_true rfl) (sh_o hS kk468 (by decide)) (Call.mono (h.2 c3) (Nat.le_refl _) ?_)
    rintro _ M11 ⟨z10, rfl, s14, h12⟩
    refine ⟨_, rfl, ?_⟩
    refine r_invS_i dX11_shares_42 (by decide) kXn11_366 kM11_366 (by decide) (Nat.le_of_ble_eq_true rfl) rfl rfl (Nat.le_of_ble_eq_true rfl) (Nat.le_of_ble_eq_true rfl) (m_asTold (by omega) s14 ⟨_, rfl, ?_⟩)
    refine r_i2l dX11_shares_45 ?_
    refine r_ladd dX11_shares_46 ?_
    refine r_lstore_n (ls2 := [some (vR 468), some (vI p), some (vI c), some (vL (w64 (l3 + (fTm z10)))), none, some (vI l5)]) dX11_shares_47 (Nat.le_of_ble_eq_true rfl) rfl ?_
    refine r_iinc (ls2 := [some (vR 468), some (vI p), some (vI c), some (vL (w64 (l3 + (fTm z10)))), none, some (vI (w32 (l5 + (1 : Int))))]) dX11_shares_48 rfl rfl ?_
    refine r_goto (tgt := 26) dX11_shares_51 rfl ?_
    exact h12
theorem vn_ofMany {e : Nat} {M : jM} {Q : Option jV → jM → Prop} {w : Int} (he : 6 ≤ e) (hS : Shp M)
  (h : Run (e + 1) mX11_ofMany 4 [some (vR 468), some (vI w), some (vI (0 : Int)), some (vI (0 : Int))] [] M Q) :
  Call (e + 1) mX11_ofMany [vR 468, vI w] M Q := by
  show Run (e + 1) mX11_ofMany 0 [some (vR 468), some (vI w), none, none] [] M Q
  refine r_iconst dX11_ofMany_0 (by decide) ?_
  refine r_istore_n (ls2 := [some (vR 468), some (vI w), some (vI (0 : Int)), none]) dX11_ofMany_1 (Nat.le_of_ble_eq_true rfl) rfl ?_
  refine r_iconst dX11_ofMany_2 (by decide) ?_
  refine r_istore_n (ls2 := [some (vR 468), some (vI w), some (vI (0 : Int)), some (vI (0 : Int))]) dX11_ofMany_3 (Nat.le_of_ble_eq_true rfl) rfl ?_
  exact h
theorem vn_ofMany_4 {e : Nat} {M : jM} {Q : Option jV → jM → Prop} {w : Int} {l2 : Int} {l3 : Int}  (he : 6 ≤ e) (hS : Shp M)
  (h : (((w32 ((4 : Int) * (iv M 468 25))) ≤ l3) → (Q (some (vI l2)) M)) ∧ (¬ ((w32 ((4 : Int) * (iv M 468 25))) ≤ l3) → (((0 ≤ (jdiv l3 (4 : Int)) ∧ (jdiv l3 (4 : Int)) < 8) ∧ (0 ≤ (jrem l3 (4 : Int)) ∧ (jrem l3 (4 : Int)) < 4)) ∧ (∀ v3 : Int, v3 = (w32 (l2 + (if (if iv M 486 (20 * (jdiv l3 (4 : Int)) + 5 * (jrem l3 (4 : Int))).toNat = 1 ∧ iv M 486 (20 * (jdiv l3 (4 : Int)) + 5 * (jrem l3 (4 : Int)) + 1).toNat = w then (1 : Int) else (0 : Int)) = (0 : Int) then (0 : Int) else (1 : Int)))) → (Run (e + 1) mX11_ofMany 4 [some (vR 468), some (vI w), some (vI v3), some (vI (w32 (l3 + (1 : Int))))] [] M Q))))) :
  Run (e + 1) mX11_ofMany 4 [some (vR 468), some (vI w), some (vI l2), some (vI l3)] [] M Q := by
  refine r_iload_n dX11_ofMany_4 rfl ?_
  refine r_iconst dX11_ofMany_5 (by decide) ?_
  refine r_aload_n dX11_ofMany_6 rfl ?_
  refine r_get0 dX11_ofMany_7 kF11_287 (sh_o hS kk468 (by decide)) ?_
  refine r_imul dX11_ofMany_10 ?_
  refine r_icmp_ge dX11_ofMany_11 rfl (fun c1 => ?_) (fun c1 => ?_)
  · refine r_iload_n dX11_ofMany_42 rfl ?_
    exact r_iret dX11_ofMany_43 rfl (h.1 c1)
  · refine r_iload_n dX11_ofMany_14 rfl ?_
    refine r_aload_n dX11_ofMany_15 rfl ?_
    refine r_iload_n dX11_ofMany_16 rfl ?_
    refine r_iconst dX11_ofMany_17 (by decide) ?_
    refine r_idiv dX11_ofMany_18 (by decide) ?_
    refine r_iload_n dX11_ofMany_19 rfl ?_
    refine r_iconst dX11_ofMany_20 (by decide) ?_
    refine r_irem dX11_ofMany_21 (by decide) ?_
    refine r_iload_n dX11_ofMany_22 rfl ?_
    have ob2 := (h.2 c1).1
    refine r_invV_i dX11_ofMany_23 kM11_331 (by decide) (Nat.le_of_ble_eq_true rfl) rfl rfl (Nat.le_of_ble_eq_true rfl) (Nat.le_of_ble_eq_true rfl) (sh_o hS kk468 (by decide)) (m_isOf (by omega) hS ob2 ⟨_, rfl, ?_⟩)
    have K4 : Run (e + 1) mX11_ofMany 34 [some (vR 468), some (vI w), some (vI l2), some (vI l3)] [vI (if (if iv M 486 (20 * (jdiv l3 (4 : Int)) + 5 * (jrem l3 (4 : Int))).toNat = 1 ∧ iv M 486 (20 * (jdiv l3 (4 : Int)) + 5 * (jrem l3 (4 : Int)) + 1).toNat = w then (1 : Int) else (0 : Int)) = (0 : Int) then (0 : Int) else (1 : Int)), vI l2] M Q := by
      refine r_iadd dX11_ofMany_34 ?_
      have K6 : ∀ v3 : Int, v3 = (w32 (l2 + (if (if iv M 486 (20 * (jdiv l3 (4 : Int)) + 5 * (jrem l3 (4 : Int))).toNat = 1 ∧ iv M 486 (20 * (jdiv l3 (4 : Int)) + 5 * (jrem l3 (4 : Int)) + 1).toNat = w then (1 : Int) else (0 : Int)) = (0 : Int) then (0 : Int) else (1 : Int)))) → Run (e + 1) mX11_ofMany 35 [some (vR 468), some (vI w), some (vI l2), some (vI l3)] [vI v3] M Q := by
        intro v3 hv5
        refine r_istore_n (ls2 := [some (vR 468), some (vI w), some (vI v3), some (vI l3)]) dX11_ofMany_35 (Nat.le_of_ble_eq_true rfl) rfl ?_
        refine r_iinc (ls2 := [some (vR 468), some (vI w), some (vI v3), some (vI (w32 (l3 + (1 : Int))))]) dX11_ofMany_36 rfl rfl ?_
        refine r_goto (tgt := 4) dX11_ofMany_39 rfl ?_
        exact ((h.2 c1).2 v3 hv5)
      exact K6 _ rfl
    refine r_if_eq dX11_ofMany_26 rfl (fun q7 => ?_) (fun q7 => ?_)
    · rw [if_pos q7] at K4
      refine r_iconst dX11_ofMany_33 (by decide) ?_
      exact K4
    · rw [if_neg q7] at K4
      refine r_iconst dX11_ofMany_29 (by decide) ?_
      refine r_goto (tgt := 34) dX11_ofMany_30 rfl ?_
      exact K4
theorem vn_valueOf {e : Nat} {M : jM} {Q : Option jV → jM → Prop} {p : Int} {w : Int} (he : 6 ≤ e) (hS : Shp M)
  (h : (w = 0 → (Call e mX11_weightOf [vR 468, vI p] M (fun r5 M3 => ∃ z2 : Int, r5 = some (vL z2) ∧ Shp M3 ∧ (Q (some (vL z2)) M3)))) ∧ (w = 1 → (Call e mX11_weightOf [vR 468, vI p] M (fun r10 M8 => ∃ z7 : Int, r10 = some (vL z7) ∧ Shp M8 ∧ (Q (some (vL (w64 (-z7)))) M8)))) ∧ (w = 2 → ((0 ≤ (w32 ((w32 ((3 : Int) * p)) + (1 : Int))) ∧ (w32 ((w32 ((3 : Int) * p)) + (1 : Int))) < 24) ∧ (Q (some (vL (iv M 483 (w32 ((w32 ((3 : Int) * p)) + (1 : Int))).toNat))) M))) ∧ ((w < 0 ∨ 2 < w) → (Call e mX11_ofMany [vR 468, vI p] M (fun r16 M14 => ∃ z13 : Int, r16 = some (vI z13) ∧ Shp M14 ∧ (Q (some (vL z13)) M14))))) :
  Call (e + 1) mX11_valueOf [vR 468, vI p, vI w] M Q := by
  show Run (e + 1) mX11_valueOf 0 [some (vR 468), some (vI p), some (vI w)] [] M Q
  refine r_iload_n dX11_valueOf_0 rfl ?_
  by_cases c1 : w < 0 ∨ 2 < w
  · refine r_tab_out (tgt := 53) dX11_valueOf_1 c1 rfl ?_
    refine r_aload_n dX11_valueOf_53 rfl ?_
    refine r_iload_n dX11_valueOf_54 rfl ?_
    refine r_invV_i dX11_valueOf_55 kM11_468 (by decide) (Nat.le_of_ble_eq_true rfl) rfl rfl (Nat.le_of_ble_eq_true rfl) (Nat.le_of_ble_eq_true rfl) (sh_o hS kk468 (by decide)) (Call.mono (h.2.2.2 c1) (Nat.le_refl _) ?_)
    rintro _ M14 ⟨z13, rfl, s17, h15⟩
    refine ⟨_, rfl, ?_⟩
    refine r_i2l dX11_valueOf_58 ?_
    exact r_lret dX11_valueOf_59 rfl h15
  · rcases (show w = 0 ∨ w = 1 ∨ w = 2 by omega) with c1e | c1e | c1e
    · refine r_tab_eq (tgt := 28) dX11_valueOf_1 c1e (by decide) rfl rfl ?_
      refine r_aload_n dX11_valueOf_28 rfl ?_
      refine r_iload_n dX11_valueOf_29 rfl ?_
      refine r_invV_l dX11_valueOf_30 kM11_340 (by decide) (Nat.le_of_ble_eq_true rfl) rfl rfl (Nat.le_of_ble_eq_true rfl) (Nat.le_of_ble_eq_true rfl) (sh_o hS kk468 (by decide)) (Call.mono (h.1 c1e) (Nat.le_refl _) ?_)
      rintro _ M3 ⟨z2, rfl, s6, h4⟩
      refine ⟨_, rfl, ?_⟩
      exact r_lret dX11_valueOf_33 rfl h4
    · refine r_tab_eq (tgt := 34) dX11_valueOf_1 c1e (by decide) rfl rfl ?_
      refine r_aload_n dX11_valueOf_34 rfl ?_
      refine r_iload_n dX11_valueOf_35 rfl ?_
      refine r_invV_l dX11_valueOf_36 kM11_340 (by decide) (Nat.le_of_ble_eq_true rfl) rfl rfl (Nat.le_of_ble_eq_true rfl) (Nat.le_of_ble_eq_true rfl) (sh_o hS kk468 (by decide)) (Call.mono (h.2.1 c1e) (Nat.le_refl _) ?_)
      rintro _ M8 ⟨z7, rfl, s11, h9⟩
      refine ⟨_, rfl, ?_⟩
      refine r_lneg dX11_valueOf_39 ?_
      exact r_lret dX11_valueOf_40 rfl h9
    · refine r_tab_eq (tgt := 41) dX11_valueOf_1 c1e (by decide) rfl rfl ?_
      refine r_aload_n dX11_valueOf_41 rfl ?_
      refine r_getS (v := 483) dX11_valueOf_42 kF11_52 (sh_o hS kk468 (by decide)) (sh_f hS rr468_23 (by decide)) ?_
      refine r_iconst dX11_valueOf_45 (by decide) ?_
      refine r_iload_n dX11_valueOf_46 rfl ?_
      refine r_imul dX11_valueOf_47 ?_
      refine r_iconst dX11_valueOf_48 (by decide) ?_
      refine r_iadd dX11_valueOf_49 ?_
      have ob12 := (h.2.2.1 c1e).1
      refine r_iaload dX11_valueOf_50 (jro_ix (sh_r hS kk483 (by decide)) ob12) ?_
      refine r_i2l dX11_valueOf_51 ?_
      exact r_lret dX11_valueOf_52 rfl (h.2.2.1 c1e).2
theorem vn_topBy {e : Nat} {M : jM} {Q : Option jV → jM → Prop} {w : Int} (he : 6 ≤ e) (hS : Shp M)
  (h : Run (e + 1) mX11_topBy 4 [some (vR 468), some (vI w), some (vI (0 : Int)), some (vI (1 : Int))] [] M Q) :
  Call (e + 1) mX11_topBy [vR 468, vI w] M Q := by
  show Run (e + 1) mX11_topBy 0 [some (vR 468), some (vI w), none, none] [] M Q
  refine r_iconst dX11_topBy_0 (by decide) ?_
  refine r_istore_n (ls2 := [some (vR 468), some (vI w), some (vI (0 : Int)), none]) dX11_topBy_1 (Nat.le_of_ble_eq_true rfl) rfl ?_
  refine r_iconst dX11_topBy_2 (by decide) ?_
  refine r_istore_n (ls2 := [some (vR 468), some (vI w), some (vI (0 : Int)), some (vI (1 : Int))]) dX11_topBy_3 (Nat.le_of_ble_eq_true rfl) rfl ?_
  exact h
theorem vn_topBy_4 {e : Nat} {M : jM} {Q : Option jV → jM → Prop} {w : Int} {l2 : Int} {l3 : Int}  (he : 6 ≤ e) (hS : Shp M)
  (h : (((iv M 468 25) ≤ l3) → (Q (some (vI l2)) M)) ∧ (¬ ((iv M 468 25) ≤ l3) → (Call e mX11_valueOf [vR 468, vI l3, vI w] M (fun r5 M3 => ∃ z2 : Int, r5 = some (vL z2) ∧ Shp M3 ∧ (Call e mX11_valueOf [vR 468, vI l2, vI w] M3 (fun r10 M8 => ∃ z7 : Int, r10 = some (vL z7) ∧ Shp M8 ∧ (Run (e + 1) mX11_topBy 4 [some (vR 468), some (vI w), some (vI (if (jcmp z2 z7) ≤ (0 : Int) then l2 else l3)), some (vI (w32 (l3 + (1 : Int))))] [] M8 Q))))))) :
  Run (e + 1) mX11_topBy 4 [some (vR 468), some (vI w), some (vI l2), some (vI l3)] [] M Q := by
  refine r_iload_n dX11_topBy_4 rfl ?_
  refine r_aload_n dX11_topBy_5 rfl ?_
  refine r_get0 dX11_topBy_6 kF11_287 (sh_o hS kk468 (by decide)) ?_
  refine r_icmp_ge dX11_topBy_9 rfl (fun c1 => ?_) (fun c1 => ?_)
  · refine r_iload_n dX11_topBy_40 rfl ?_
    exact r_iret dX11_topBy_41 rfl (h.1 c1)
  · refine r_aload_n dX11_topBy_12 rfl ?_
    refine r_iload_n dX11_topBy_13 rfl ?_
    refine r_iload_n dX11_topBy_14 rfl ?_
    refine r_invV_l dX11_topBy_15 kM11_471 (by decide) (Nat.le_of_ble_eq_true rfl) rfl rfl (Nat.le_of_ble_eq_true rfl) (Nat.le_of_ble_eq_true rfl) (sh_o hS kk468 (by decide)) (Call.mono (h.2 c1) (Nat.le_refl _) ?_)
    rintro _ M3 ⟨z2, rfl, s6, h4⟩
    refine ⟨_, rfl, ?_⟩
    refine r_aload_n dX11_topBy_18 rfl ?_
    refine r_iload_n dX11_topBy_19 rfl ?_
    refine r_iload_n dX11_topBy_20 rfl ?_
    refine r_invV_l dX11_topBy_21 kM11_471 (by decide) (Nat.le_of_ble_eq_true rfl) rfl rfl (Nat.le_of_ble_eq_true rfl) (Nat.le_of_ble_eq_true rfl) (sh_o s6 kk468 (by decide)) (Call.mono h4 (Nat.le_refl _) ?_)
    rintro _ M8 ⟨z7, rfl, s11, h9⟩
    refine ⟨_, rfl, ?_⟩
    refine r_lcmp dX11_topBy_24 ?_
    have K12 : Run (e + 1) mX11_topBy 33 [some (vR 468), some (vI w), some (vI l2), some (vI l3)] [vI (if (jcmp z2 z7) ≤ (0 : Int) then l2 else l3)] M8 Q := by
      refine r_istore_n (ls2 := [some (vR 468), some (vI w), some (vI (if (jcmp z2 z7) ≤ (0 : Int) then l2 else l3)), some (vI l3)]) dX11_topBy_33 (Nat.le_of_ble_eq_true rfl) rfl ?_
      refine r_iinc (ls2 := [some (vR 468), some (vI w), some (vI (if (jcmp z2 z7) ≤ (0 : Int) then l2 else l3)), some (vI (w32 (l3 + (1 : Int))))]) dX11_topBy_34 rfl rfl ?_
      refine r_goto (tgt := 4) dX11_topBy_37 rfl ?_
      exact h9
    refine r_if_le dX11_topBy_25 rfl (fun q13 => ?_) (fun q13 => ?_)
    · rw [if_pos q13] at K12
      refine r_iload_n dX11_topBy_32 rfl ?_
      exact K12
    · rw [if_neg q13] at K12
      refine r_iload_n dX11_topBy_28 rfl ?_
      refine r_goto (tgt := 33) dX11_topBy_29 rfl ?_
      exact K12
theorem vn_nobodys {e : Nat} {M : jM} {Q : Option jV → jM → Prop}  (he : 6 ≤ e) (hS : Shp M)
  (h : Run (e + 1) mX11_nobodys 4 [some (vR 468), some (vI (0 : Int)), some (vI (0 : Int))] [] M Q) :
  Call (e + 1) mX11_nobodys [vR 468] M Q := by
  show Run (e + 1) mX11_nobodys 0 [some (vR 468), none, none] [] M Q
  refine r_iconst dX11_nobodys_0 (by decide) ?_
  refine r_istore_n (ls2 := [some (vR 468), some (vI (0 : Int)), none]) dX11_nobodys_1 (Nat.le_of_ble_eq_true rfl) rfl ?_
  refine r_iconst dX11_nobodys_2 (by decide) ?_
  refine r_istore_n (ls2 := [some (vR 468), some (vI (0 : Int)), some (vI (0 : Int))]) dX11_nobodys_3 (Nat.le_of_ble_eq_true rfl) rfl ?_
  exact h
theorem vn_nobodys_4 {e : Nat} {M : jM} {Q : Option jV → jM → Prop} {l1 : Int} {l2 : Int}  (he : 6 ≤ e) (hS : Shp M)
  (h : (((iv M 468 25) ≤ l2) → (Q (some (vI l1)) M)) ∧ (¬ ((iv M 468 25) ≤ l2) → (Call e mX11_ofMany [vR 468, vI l2] M (fun r5 M3 => ∃ z2 : Int, r5 = some (vI z2) ∧ Shp M3 ∧ (Run (e + 1) mX11_nobodys 4 [some (vR 468), some (vI (jor l1 (if z2 ≠ (0 : Int) then (0 : Int) else jshl (1 : Int) l2))), some (vI (w32 (l2 + (1 : Int))))] [] M3 Q))))) :
  Run (e + 1) mX11_nobodys 4 [some (vR 468), some (vI l1), some (vI l2)] [] M Q := by
  refine r_iload_n dX11_nobodys_4 rfl ?_
  refine r_aload_n dX11_nobodys_5 rfl ?_
  refine r_get0 dX11_nobodys_6 kF11_287 (sh_o hS kk468 (by decide)) ?_
  refine r_icmp_ge dX11_nobodys_9 rfl (fun c1 => ?_) (fun c1 => ?_)
  · refine r_iload_n dX11_nobodys_36 rfl ?_
    exact r_iret dX11_nobodys_37 rfl (h.1 c1)
  · refine r_iload_n dX11_nobodys_12 rfl ?_
    refine r_aload_n dX11_nobodys_13 rfl ?_
    refine r_iload_n dX11_nobodys_14 rfl ?_
    refine r_invV_i dX11_nobodys_15 kM11_468 (by decide) (Nat.le_of_ble_eq_true rfl) rfl rfl (Nat.le_of_ble_eq_true rfl) (Nat.le_of_ble_eq_true rfl) (sh_o hS kk468 (by decide)) (Call.mono (h.2 c1) (Nat.le_refl _) ?_)
    rintro _ M3 ⟨z2, rfl, s6, h4⟩
    refine ⟨_, rfl, ?_⟩
    have K7 : Run (e + 1) mX11_nobodys 28 [some (vR 468), some (vI l1), some (vI l2)] [vI (if z2 ≠ (0 : Int) then (0 : Int) else jshl (1 : Int) l2), vI l1] M3 Q := by
      refine r_ior dX11_nobodys_28 ?_
      refine r_istore_n (ls2 := [some (vR 468), some (vI (jor l1 (if z2 ≠ (0 : Int) then (0 : Int) else jshl (1 : Int) l2))), some (vI l2)]) dX11_nobodys_29 (Nat.le_of_ble_eq_true rfl) rfl ?_
      refine r_iinc (ls2 := [some (vR 468), some (vI (jor l1 (if z2 ≠ (0 : Int) then (0 : Int) else jshl (1 : Int) l2))), some (vI (w32 (l2 + (1 : Int))))]) dX11_nobodys_30 rfl rfl ?_
      refine r_goto (tgt := 4) dX11_nobodys_33 rfl ?_
      exact h4
    refine r_if_ne dX11_nobodys_18 rfl (fun q8 => ?_) (fun q8 => ?_)
    · rw [if_pos q8] at K7
      refine r_iconst dX11_nobodys_27 (by decide) ?_
      exact K7
    · rw [if_neg q8] at K7
      refine r_iconst dX11_nobodys_21 (by decide) ?_
      refine r_iload_n dX11_nobodys_22 rfl ?_
      refine r_ishl dX11_nobodys_23 ?_
      refine r_goto (tgt := 28) dX11_nobodys_24 rfl ?_
      exact K7
theorem vn_fullOnes {e : Nat} {M : jM} {Q : Option jV → jM → Prop}  (he : 6 ≤ e) (hS : Shp M)
  (h : Run (e + 1) mX11_fullOnes 4 [some (vR 468), some (vI (0 : Int)), some (vI (0 : Int))] [] M Q) :
  Call (e + 1) mX11_fullOnes [vR 468] M Q := by
  show Run (e + 1) mX11_fullOnes 0 [some (vR 468), none, none] [] M Q
  refine r_iconst dX11_fullOnes_0 (by decide) ?_
  refine r_istore_n (ls2 := [some (vR 468), some (vI (0 : Int)), none]) dX11_fullOnes_1 (Nat.le_of_ble_eq_true rfl) rfl ?_
  refine r_iconst dX11_fullOnes_2 (by decide) ?_
  refine r_istore_n (ls2 := [some (vR 468), some (vI (0 : Int)), some (vI (0 : Int))]) dX11_fullOnes_3 (Nat.le_of_ble_eq_true rfl) rfl ?_
  exact h
theorem vn_fullOnes_4 {e : Nat} {M : jM} {Q : Option jV → jM → Prop} {l1 : Int} {l2 : Int}  (he : 6 ≤ e) (hS : Shp M)
  (h : (((iv M 468 25) ≤ l2) → (Q (some (vI l1)) M)) ∧ (¬ ((iv M 468 25) ≤ l2) → (Call e mX11_emptyIn [vR 468, vI l2] M (fun r5 M3 => ∃ z2 : Int, r5 = some (vI z2) ∧ Shp M3 ∧ (Run (e + 1) mX11_fullOnes 4 [some (vR 468), some (vI (jor l1 (if z2 ≠ (-1 : Int) then (0 : Int) else jshl (1 : Int) l2))), some (vI (w32 (l2 + (1 : Int))))] [] M3 Q))))) :
  Run (e + 1) mX11_fullOnes 4 [some (vR 468), some (vI l1), some (vI l2)] [] M Q := by
  refine r_iload_n dX11_fullOnes_4 rfl ?_
  refine r_aload_n dX11_fullOnes_5 rfl ?_
  refine r_get0 dX11_fullOnes_6 kF11_287 (sh_o hS kk468 (by decide)) ?_
  refine r_icmp_ge dX11_fullOnes_9 rfl (fun c1 => ?_) (fun c1 => ?_)
  · refine r_iload_n dX11_fullOnes_37 rfl ?_
    exact r_iret dX11_fullOnes_38 rfl (h.1 c1)
  · refine r_iload_n dX11_fullOnes_12 rfl ?_
    refine r_aload_n dX11_fullOnes_13 rfl ?_
    refine r_iload_n dX11_fullOnes_14 rfl ?_
    refine r_invV_i dX11_fullOnes_15 kM11_274 (by decide) (Nat.le_of_ble_eq_true rfl) rfl rfl (Nat.le_of_ble_eq_true rfl) (Nat.le_of_ble_eq_true rfl) (sh_o hS kk468 (by decide)) (Call.mono (h.2 c1) (Nat.le_refl _) ?_)
    rintro _ M3 ⟨z2, rfl, s6, h4⟩
    refine ⟨_, rfl, ?_⟩
    refine r_iconst dX11_fullOnes_18 (by decide) ?_
    have K7 : Run (e + 1) mX11_fullOnes 29 [some (vR 468), some (vI l1), some (vI l2)] [vI (if z2 ≠ (-1 : Int) then (0 : Int) else jshl (1 : Int) l2), vI l1] M3 Q := by
      refine r_ior dX11_fullOnes_29 ?_
      refine r_istore_n (ls2 := [some (vR 468), some (vI (jor l1 (if z2 ≠ (-1 : Int) then (0 : Int) else jshl (1 : Int) l2))), some (vI l2)]) dX11_fullOnes_30 (Nat.le_of_ble_eq_true rfl) rfl ?_
      refine r_iinc (ls2 := [some (vR 468), some (vI (jor l1 (if z2 ≠ (-1 : Int) then (0 : Int) else jshl (1 : Int) l2))), some (vI (w32 (l2 + (1 : Int))))]) dX11_fullOnes_31 rfl rfl ?_
      refine r_goto (tgt := 4) dX11_fullOnes_34 rfl ?_
      exact h4
    refine r_icmp_ne dX11_fullOnes_19 rfl (fun q8 => ?_) (fun q8 => ?_)
    · rw [if_pos q8] at K7
      refine r_iconst dX11_fullOnes_28 (by decide) ?_
      exact K7
    · rw [if_neg q8] at K7
      refine r_iconst dX11_fullOnes_22 (by decide) ?_
      refine r_iload_n dX11_fullOnes_23 rfl ?_
      refine r_ishl dX11_fullOnes_24 ?_
      refine r_goto (tgt := 29) dX11_fullOnes_25 rfl ?_
      exact K7
theorem vn_oldest {e : Nat} {M : jM} {Q : Option jV → jM → Prop}  (he : 6 ≤ e) (hS : Shp M)
  (h : Run (e + 1) mX11_oldest 4 [some (vR 468), some (vI (-1 : Int)), some (vI (0 : Int)), none] [] M Q) :
  Call (e + 1) mX11_oldest [vR 468] M Q := by
  show Run (e + 1) mX11_oldest 0 [some (vR 468), none, none, none] [] M Q
  refine r_iconst dX11_oldest_0 (by decide) ?_
  refine r_istore_n (ls2 := [some (vR 468), some (vI (-1 : Int)), none, none]) dX11_oldest_1 (Nat.le_of_ble_eq_true rfl) rfl ?_
  refine r_iconst dX11_oldest_2 (by decide) ?_
  refine r_istore_n (ls2 := [some (vR 468), some (vI (-1 : Int)), some (vI (0 : Int)), none]) dX11_oldest_3 (Nat.le_of_ble_eq_true rfl) rfl ?_
  exact h
theorem vn_oldest_4 {e : Nat} {M : jM} {Q : Option jV → jM → Prop} {l1 : Int} {l2 : Int} {l3 : Option jV}  (he : 6 ≤ e) (hS : Shp M)
  (h : (((iv M 468 25) ≤ l2) → (Q (some (vI l1)) M)) ∧ (¬ ((iv M 468 25) ≤ l2) → (Run (e + 1) mX11_oldest 14 [some (vR 468), some (vI l1), some (vI l2), some (vI (0 : Int))] [] M Q))) :
  Run (e + 1) mX11_oldest 4 [some (vR 468), some (vI l1), some (vI l2), l3] [] M Q := by
  refine r_iload_n dX11_oldest_4 rfl ?_
  refine r_aload_n dX11_oldest_5 rfl ?_
  refine r_get0 dX11_oldest_6 kF11_287 (sh_o hS kk468 (by decide)) ?_
  refine r_icmp_ge dX11_oldest_9 rfl (fun c1 => ?_) (fun c1 => ?_)
  · refine r_iload_n dX11_oldest_58 rfl ?_
    exact r_iret dX11_oldest_59 rfl (h.1 c1)
  · refine r_iconst dX11_oldest_12 (by decide) ?_
    refine r_istore_n (ls2 := [some (vR 468), some (vI l1), some (vI l2), some (vI (0 : Int))]) dX11_oldest_13 (Nat.le_of_ble_eq_true rfl) rfl ?_
    exact (h.2 c1)
theorem vn_oldest_14 {e : Nat} {M : jM} {Q : Option jV → jM → Prop} {l1 : Int} {l2 : Int} {l3 : Int}  (he : 6 ≤ e) (hS : Shp M)
  (h : (((4 : Int) ≤ l3) → (Run (e + 1) mX11_oldest 4 [some (vR 468), some (vI l1), some (vI (w32 (l2 + (1 : Int)))), some (vI l3)] [] M Q)) ∧ (¬ ((4 : Int) ≤ l3) → (((0 ≤ l2 ∧ l2 < 8) ∧ (0 ≤ l3 ∧ l3 < 4)) ∧ ((((iv M 486 (20 * l2 + 5 * l3 + (0 : Int)).toNat) ≠ (1 : Int)) → (Run (e + 1) mX11_oldest 14 [some (vR 468), some (vI l1), some (vI l2), some (vI (w32 (l3 + (1 : Int))))] [] M Q)) ∧ (¬ ((iv M 486 (20 * l2 + 5 * l3 + (0 : Int)).toNat) ≠ (1 : Int)) → (∀ v5 : Int, v5 = (if l1 < (iv M 486 (20 * l2 + 5 * l3 + (4 : Int)).toNat) then (iv M 486 (20 * l2 + 5 * l3 + (4 : Int)).toNat) else l1) → (Run (e + 1) mX11_oldest 14 [some (vR 468), some (vI v5), some (vI l2), some (vI (w32 (l3 + (1 : Int))))] [] M Q))))))) :
  Run (e + 1) mX11_oldest 14 [some (vR 468), some (vI l1), some (vI l2), some (vI l3)] [] M Q := by
  refine r_iload_n dX11_oldest_14 rfl ?_
  refine r_iconst dX11_oldest_15 (by decide) ?_
  refine r_icmp_ge dX11_oldest_16 rfl (fun c2 => ?_) (fun c2 => ?_)
  · refine r_iinc (ls2 := [some (vR 468), some (vI l1), some (vI (w32 (l2 + (1 : Int)))), some (vI l3)]) dX11_oldest_52 rfl rfl ?_
    refine r_goto (tgt := 4) dX11_oldest_55 rfl ?_
    exact (h.1 c2)
  · refine r_aload_n dX11_oldest_19 rfl ?_
    refine r_iload_n dX11_oldest_20 rfl ?_
    refine r_iload_n dX11_oldest_21 rfl ?_
    refine r_iconst dX11_oldest_22 (by decide) ?_
    have ob3 := (h.2 c2).1
    refine r_invV_i dX11_oldest_23 kM11_271 (by decide) (Nat.le_of_ble_eq_true rfl) rfl rfl (Nat.le_of_ble_eq_true rfl) (Nat.le_of_ble_eq_true rfl) (sh_o hS kk468 (by decide)) (m_of (by omega) hS ⟨ob3.1, ob3.2, by decide⟩ ⟨_, rfl, ?_⟩)
    refine r_iconst dX11_oldest_26 (by decide) ?_
    refine r_icmp_ne dX11_oldest_27 rfl (fun c4 => ?_) (fun c4 => ?_)
    · refine r_iload_n dX11_oldest_44 rfl ?_
      refine r_istore_n (ls2 := [some (vR 468), some (vI l1), some (vI l2), some (vI l3)]) dX11_oldest_45 (Nat.le_of_ble_eq_true rfl) rfl ?_
      refine r_iinc (ls2 := [some (vR 468), some (vI l1), some (vI l2), some (vI (w32 (l3 + (1 : Int))))]) dX11_oldest_46 rfl rfl ?_
      refine r_goto (tgt := 14) dX11_oldest_49 rfl ?_
      exact ((h.2 c2).2.1 c4)
    · refine r_iload_n dX11_oldest_30 rfl ?_
      refine r_aload_n dX11_oldest_31 rfl ?_
      refine r_iload_n dX11_oldest_32 rfl ?_
      refine r_iload_n dX11_oldest_33 rfl ?_
      refine r_iconst dX11_oldest_34 (by decide) ?_
      refine r_invV_i dX11_oldest_35 kM11_271 (by decide) (Nat.le_of_ble_eq_true rfl) rfl rfl (Nat.le_of_ble_eq_true rfl) (Nat.le_of_ble_eq_true rfl) (sh_o hS kk468 (by decide)) (m_of (by omega) hS ⟨ob3.1, ob3.2, by decide⟩ ⟨_, rfl, ?_⟩)
      refine r_math0 dX11_oldest_38 (by decide) kX11_443 (Nat.le_of_ble_eq_true rfl) ?_
      have K7 : ∀ v5 : Int, v5 = (if l1 < (iv M 486 (20 * l2 + 5 * l3 + (4 : Int)).toNat) then (iv M 486 (20 * l2 + 5 * l3 + (4 : Int)).toNat) else l1) → Run (e + 1) mX11_oldest 41 [some (vR 468), some (vI l1), some (vI l2), some (vI l3)] [vI v5] M Q := by
        intro v5 hv6
        refine r_goto (tgt := 45) dX11_oldest_41 rfl ?_
        refine r_istore_n (ls2 := [some (vR 468), some (vI v5), some (vI l2), some (vI l3)]) dX11_oldest_45 (Nat.le_of_ble_eq_true rfl) rfl ?_
        refine r_iinc (ls2 := [some (vR 468), some (vI v5), some (vI l2), some (vI (w32 (l3 + (1 : Int))))]) dX11_oldest_46 rfl rfl ?_
        refine r_goto (tgt := 14) dX11_oldest_49 rfl ?_
        exact (((h.2 c2).2.2 c4) v5 hv6)
      exact K7 _ rfl
theorem vn_thinksOf {e : Nat} {M : jM} {Q : Option jV → jM → Prop} {p : Int} {o : Int} (he : 6 ≤ e) (hS : Shp M)
  (h : Run (e + 1) mX11_thinksOf 2 [some (vR 468), some (vI p), some (vI o), some (vI (0 : Int))] [] M Q) :
  Call (e + 1) mX11_thinksOf [vR 468, vI p, vI o] M Q := by
  show Run (e + 1) mX11_thinksOf 0 [some (vR 468), some (vI p), some (vI o), none] [] M Q
  refine r_iconst dX11_thinksOf_0 (by decide) ?_
  refine r_istore_n (ls2 := [some (vR 468), some (vI p), some (vI o), some (vI (0 : Int))]) dX11_thinksOf_1 (Nat.le_of_ble_eq_true rfl) rfl ?_
  exact h
theorem vn_thinksOf_2 {e : Nat} {M : jM} {Q : Option jV → jM → Prop} {p : Int} {o : Int} {l3 : Int}  (he : 6 ≤ e) (hS : Shp M)
  (h : (((4 : Int) ≤ l3) → (Q (some (vI (0 : Int))) M)) ∧ (¬ ((4 : Int) ≤ l3) → (((0 ≤ p ∧ p < 8) ∧ (0 ≤ l3 ∧ l3 < 4)) ∧ ((((if iv M 486 (20 * p + 5 * l3).toNat = 1 ∧ iv M 486 (20 * p + 5 * l3 + 1).toNat = o then (1 : Int) else (0 : Int)) = (0 : Int)) → (Run (e + 1) mX11_thinksOf 2 [some (vR 468), some (vI p), some (vI o), some (vI (w32 (l3 + (1 : Int))))] [] M Q)) ∧ (¬ ((if iv M 486 (20 * p + 5 * l3).toNat = 1 ∧ iv M 486 (20 * p + 5 * l3 + 1).toNat = o then (1 : Int) else (0 : Int)) = (0 : Int)) → (Q (some (vI (1 : Int))) M)))))) :
  Run (e + 1) mX11_thinksOf 2 [some (vR 468), some (vI p), some (vI o), some (vI l3)] [] M Q := by
  refine r_iload_n dX11_thinksOf_2 rfl ?_
  refine r_iconst dX11_thinksOf_3 (by decide) ?_
  refine r_icmp_ge dX11_thinksOf_4 rfl (fun c1 => ?_) (fun c1 => ?_)
  · refine r_iconst dX11_thinksOf_25 (by decide) ?_
    exact r_zret dX11_thinksOf_26 rfl (by decide) (h.1 c1)
  · refine r_aload_n dX11_thinksOf_7 rfl ?_
    refine r_iload_n dX11_thinksOf_8 rfl ?_
    refine r_iload_n dX11_thinksOf_9 rfl ?_
    refine r_iload_n dX11_thinksOf_10 rfl ?_
    have ob2 := (h.2 c1).1
    refine r_invV_i dX11_thinksOf_11 kM11_331 (by decide) (Nat.le_of_ble_eq_true rfl) rfl rfl (Nat.le_of_ble_eq_true rfl) (Nat.le_of_ble_eq_true rfl) (sh_o hS kk468 (by decide)) (m_isOf (by omega) hS ob2 ⟨_, rfl, ?_⟩)
    refine r_if_eq dX11_thinksOf_14 rfl (fun c3 => ?_) (fun c3 => ?_)
    · refine r_iinc (ls2 := [some (vR 468), some (vI p), some (vI o), some (vI (w32 (l3 + (1 : Int))))]) dX11_thinksOf_19 rfl rfl ?_
      refine r_goto (tgt := 2) dX11_thinksOf_22 rfl ?_
      exact ((h.2 c1).2.1 c3)
    · refine r_iconst dX11_thinksOf_17 (by decide) ?_
      exact r_zret dX11_thinksOf_18 rfl (by decide) ((h.2 c1).2.2 c3)
theorem vn_pairMany {e : Nat} {M : jM} {Q : Option jV → jM → Prop}  (he : 6 ≤ e) (hS : Shp M)
  (h : Run (e + 1) mX11_pairMany 4 [some (vR 468), some (vI (0 : Int)), some (vI (0 : Int)), none] [] M Q) :
  Call (e + 1) mX11_pairMany [vR 468] M Q := by
  show Run (e + 1) mX11_pairMany 0 [some (vR 468), none, none, none] [] M Q
  refine r_iconst dX11_pairMany_0 (by decide) ?_
  refine r_istore_n (ls2 := [some (vR 468), some (vI (0 : Int)), none, none]) dX11_pairMany_1 (Nat.le_of_ble_eq_true rfl) rfl ?_
  refine r_iconst dX11_pairMany_2 (by decide) ?_
  refine r_istore_n (ls2 := [some (vR 468), some (vI (0 : Int)), some (vI (0 : Int)), none]) dX11_pairMany_3 (Nat.le_of_ble_eq_true rfl) rfl ?_
  exact h
theorem vn_pairMany_4 {e : Nat} {M : jM} {Q : Option jV → jM → Prop} {l1 : Int} {l2 : Int} {l3 : Option jV}  (he : 6 ≤ e) (hS : Shp M)
  (h : (((iv M 468 25) ≤ l2) → (Q (some (vI l1)) M)) ∧ (¬ ((iv M 468 25) ≤ l2) → (Run (e + 1) mX11_pairMany 14 [some (vR 468), some (vI l1), some (vI l2), some (vI (0 : Int))] [] M Q))) :
  Run (e + 1) mX11_pairMany 4 [some (vR 468), some (vI l1), some (vI l2), l3] [] M Q := by
  refine r_iload_n dX11_pairMany_4 rfl ?_
  refine r_aload_n dX11_pairMany_5 rfl ?_
  refine r_get0 dX11_pairMany_6 kF11_287 (sh_o hS kk468 (by decide)) ?_
  refine r_icmp_ge dX11_pairMany_9 rfl (fun c1 => ?_) (fun c1 => ?_)
  · refine r_iload_n dX11_pairMany_57 rfl ?_
    exact r_iret dX11_pairMany_58 rfl (h.1 c1)
  · refine r_iconst dX11_pairMany_12 (by decide) ?_
    refine r_istore_n (ls2 := [some (vR 468), some (vI l1), some (vI l2), some (vI (0 : Int))]) dX11_pairMany_13 (Nat.le_of_ble_eq_true rfl) rfl ?_
    exact (h.2 c1)
theorem vn_pairMany_14 {e : Nat} {M : jM} {Q : Option jV → jM → Prop} {l1 : Int} {l2 : Int} {l3 : Int}  (he : 6 ≤ e) (hS : Shp M)
  (h : ((l2 ≤ l3) → (Run (e + 1) mX11_pairMany 4 [some (vR 468), some (vI l1), some (vI (w32 (l2 + (1 : Int)))), some (vI l3)] [] M Q)) ∧ (¬ (l2 ≤ l3) → (Call e mX11_thinksOf [vR 468, vI l2, vI l3] M (fun r6 M4 => ∃ z3 : Int, r6 = some (vI z3) ∧ Shp M4 ∧ (((z3 = (0 : Int)) → (Run (e + 1) mX11_pairMany 14 [some (vR 468), some (vI (w32 (l1 + (0 : Int)))), some (vI l2), some (vI (w32 (l3 + (1 : Int))))] [] M4 Q)) ∧ (¬ (z3 = (0 : Int)) → (Call e mX11_thinksOf [vR 468, vI l3, vI l2] M4 (fun r12 M10 => ∃ z9 : Int, r12 = some (vI z9) ∧ Shp M10 ∧ (Run (e + 1) mX11_pairMany 14 [some (vR 468), some (vI (w32 (l1 + (if z9 = (0 : Int) then (0 : Int) else (1 : Int))))), some (vI l2), some (vI (w32 (l3 + (1 : Int))))] [] M10 Q))))))))) :
  Run (e + 1) mX11_pairMany 14 [some (vR 468), some (vI l1), some (vI l2), some (vI l3)] [] M Q := by
  refine r_iload_n dX11_pairMany_14 rfl ?_
  refine r_iload_n dX11_pairMany_15 rfl ?_
  refine r_icmp_ge dX11_pairMany_16 rfl (fun c2 => ?_) (fun c2 => ?_)
  · refine r_iinc (ls2 := [some (vR 468), some (vI l1), some (vI (w32 (l2 + (1 : Int)))), some (vI l3)]) dX11_pairMany_51 rfl rfl ?_
    refine r_goto (tgt := 4) dX11_pairMany_54 rfl ?_
    exact (h.1 c2)
  · refine r_iload_n dX11_pairMany_19 rfl ?_
    refine r_aload_n dX11_pairMany_20 rfl ?_
    refine r_iload_n dX11_pairMany_21 rfl ?_
    refine r_iload_n dX11_pairMany_22 rfl ?_
    refine r_invV_i dX11_pairMany_23 kM11_474 (by decide) (Nat.le_of_ble_eq_true rfl) rfl rfl (Nat.le_of_ble_eq_true rfl) (Nat.le_of_ble_eq_true rfl) (sh_o hS kk468 (by decide)) (Call.mono (h.2 c2) (Nat.le_refl _) ?_)
    rintro _ M4 ⟨z3, rfl, s7, h5⟩
    refine ⟨_, rfl, ?_⟩
    refine r_if_eq dX11_pairMany_26 rfl (fun c8 => ?_) (fun c8 => ?_)
    · refine r_iconst dX11_pairMany_42 (by decide) ?_
      refine r_iadd dX11_pairMany_43 ?_
      refine r_istore_n (ls2 := [some (vR 468), some (vI (w32 (l1 + (0 : Int)))), some (vI l2), some (vI l3)]) dX11_pairMany_44 (Nat.le_of_ble_eq_true rfl) rfl ?_
      refine r_iinc (ls2 := [some (vR 468), some (vI (w32 (l1 + (0 : Int)))), some (vI l2), some (vI (w32 (l3 + (1 : Int))))]) dX11_pairMany_45 rfl rfl ?_
      refine r_goto (tgt := 14) dX11_pairMany_48 rfl ?_
      exact (h5.1 c8)
    · refine r_aload_n dX11_pairMany_29 rfl ?_
      refine r_iload_n dX11_pairMany_30 rfl ?_
      refine r_iload_n dX11_pairMany_31 rfl ?_
      refine r_invV_i dX11_pairMany_32 kM11_474 (by decide) (Nat.le_of_ble_eq_true rfl) rfl rfl (Nat.le_of_ble_eq_true rfl) (Nat.le_of_ble_eq_true rfl) (sh_o s7 kk468 (by decide)) (Call.mono (h5.2 c8) (Nat.le_refl _) ?_)
      rintro _ M10 ⟨z9, rfl, s13, h11⟩
      refine ⟨_, rfl, ?_⟩
      have K14 : Run (e + 1) mX11_pairMany 43 [some (vR 468), some (vI l1), some (vI l2), some (vI l3)] [vI (if z9 = (0 : Int) then (0 : Int) else (1 : Int)), vI l1] M10 Q := by
        refine r_iadd dX11_pairMany_43 ?_
        refine r_istore_n (ls2 := [some (vR 468), some (vI (w32 (l1 + (if z9 = (0 : Int) then (0 : Int) else (1 : Int))))), some (vI l2), some (vI l3)]) dX11_pairMany_44 (Nat.le_of_ble_eq_true rfl) rfl ?_
        refine r_iinc (ls2 := [some (vR 468), some (vI (w32 (l1 + (if z9 = (0 : Int) then (0 : Int) else (1 : Int))))), some (vI l2), some (vI (w32 (l3 + (1 : Int))))]) dX11_pairMany_45 rfl rfl ?_
        refine r_goto (tgt := 14) dX11_pairMany_48 rfl ?_
        exact h11
      refine r_if_eq dX11_pairMany_35 rfl (fun q15 => ?_) (fun q15 => ?_)
      · rw [if_pos q15] at K14
        refine r_iconst dX11_pairMany_42 (by decide) ?_
        exact K14
      · rw [if_neg q15] at K14
        refine r_iconst dX11_pairMany_38 (by decide) ?_
        refine r_goto (tgt := 43) dX11_pairMany_39 rfl ?_
        exact K14
theorem vn_most {e : Nat} {M : jM} {Q : Option jV → jM → Prop} {w : Int} (he : 6 ≤ e) (hS : Shp M)
  (h : (((iv M 468 25) = (0 : Int)) → (Q (some (vI (-1000000 : Int))) M)) ∧ (¬ ((iv M 468 25) = (0 : Int)) → ((((fIn w (0 : Int) (10 : Int)) ≠ (0 : Int)) → ((w = 4 → (Call e mX11_floating [vR 468] M (fun r7 M5 => ∃ z4 : Int, r7 = some (vI z4) ∧ Shp M5 ∧ (Q (some (vI z4)) M5)))) ∧ (w = 5 → (Call e mX11_sinking [vR 468] M (fun r12 M10 => ∃ z9 : Int, r12 = some (vI z9) ∧ Shp M10 ∧ (Q (some (vI z9)) M10)))) ∧ (w = 6 → (Call e mX11_nobodys [vR 468] M (fun r17 M15 => ∃ z14 : Int, r17 = some (vI z14) ∧ Shp M15 ∧ (Q (some (vI z14)) M15)))) ∧ (w = 7 → (Call e mX11_thoughtMany [vR 468] M (fun r22 M20 => ∃ z19 : Int, r22 = some (vI z19) ∧ Shp M20 ∧ (Q (some (vI z19)) M20)))) ∧ (w = 8 → (Call e mX11_fullOnes [vR 468] M (fun r27 M25 => ∃ z24 : Int, r27 = some (vI z24) ∧ Shp M25 ∧ (Q (some (vI z24)) M25)))) ∧ (w = 9 → (Call e mX11_oldest [vR 468] M (fun r32 M30 => ∃ z29 : Int, r32 = some (vI z29) ∧ Shp M30 ∧ (Q (some (vI z29)) M30)))) ∧ (w = 10 → (Call e mX11_pairMany [vR 468] M (fun r37 M35 => ∃ z34 : Int, r37 = some (vI z34) ∧ Shp M35 ∧ (Q (some (vI z34)) M35)))) ∧ ((w < 4 ∨ 10 < w) → (Call e mX11_topBy [vR 468, vI w] M (fun r42 M40 => ∃ z39 : Int, r42 = some (vI z39) ∧ Shp M40 ∧ (Q (some (vI z39)) M40)))))) ∧ (¬ ((fIn w (0 : Int) (10 : Int)) ≠ (0 : Int)) → (Q (some (vI (-1000000 : Int))) M))))) :
  Call (e + 1) mX11_most [vR 468, vI w] M Q := by
  show Run (e + 1) mX11_most 0 [some (vR 468), some (vI w)] [] M Q
  refine r_aload_n dX11_most_0 rfl ?_
  refine r_get0 dX11_most_1 kF11_287 (sh_o hS kk468 (by decide)) ?_
  refine r_if_eq dX11_most_4 rfl (fun c1 => ?_) (fun c1 => ?_)
  · refine r_ldc_w dX11_most_17 kK11_449 ?_
    exact r_iret dX11_most_20 rfl (h.1 c1)
  · refine r_iload_n dX11_most_7 rfl ?_
    refine r_iconst dX11_most_8 (by decide) ?_
    refine r_bipush dX11_most_9 (by decide) ?_
    refine r_invS_i dX11_most_11 (by decide) kXn11_224 kM11_224 (by decide) (Nat.le_of_ble_eq_true rfl) rfl rfl (Nat.le_of_ble_eq_true rfl) (Nat.le_of_ble_eq_true rfl) (m_in (by omega) hS ⟨_, rfl, ?_⟩)
    refine r_if_ne dX11_most_14 rfl (fun c2 => ?_) (fun c2 => ?_)
    · refine r_iload_n dX11_most_21 rfl ?_
      by_cases c3 : w < 4 ∨ 10 < w
      · refine r_tab_out (tgt := 99) dX11_most_22 c3 rfl ?_
        refine r_aload_n dX11_most_99 rfl ?_
        refine r_iload_n dX11_most_100 rfl ?_
        refine r_invV_i dX11_most_101 kM11_489 (by decide) (Nat.le_of_ble_eq_true rfl) rfl rfl (Nat.le_of_ble_eq_true rfl) (Nat.le_of_ble_eq_true rfl) (sh_o hS kk468 (by decide)) (Call.mono (((h.2 c1).1 c2).2.2.2.2.2.2.2 c3) (Nat.le_refl _) ?_)
        rintro _ M40 ⟨z39, rfl, s43, h41⟩
        refine ⟨_, rfl, ?_⟩
        exact r_iret dX11_most_104 rfl h41
      · rcases (show w = 4 ∨ w = 5 ∨ w = 6 ∨ w = 7 ∨ w = 8 ∨ w = 9 ∨ w = 10 by omega) with c3e | c3e | c3e | c3e | c3e | c3e | c3e
        · refine r_tab_eq (tgt := 64) dX11_most_22 c3e (by decide) rfl rfl ?_
          refine r_aload_n dX11_most_64 rfl ?_
          refine r_invV_i dX11_most_65 kM11_357 (by decide) (Nat.le_of_ble_eq_true rfl) rfl rfl (Nat.le_of_ble_eq_true rfl) (Nat.le_of_ble_eq_true rfl) (sh_o hS kk468 (by decide)) (Call.mono (((h.2 c1).1 c2).1 c3e) (Nat.le_refl _) ?_)
          rintro _ M5 ⟨z4, rfl, s8, h6⟩
          refine ⟨_, rfl, ?_⟩
          exact r_iret dX11_most_68 rfl h6
        · refine r_tab_eq (tgt := 69) dX11_most_22 c3e (by decide) rfl rfl ?_
          refine r_aload_n dX11_most_69 rfl ?_
          refine r_invV_i dX11_most_70 kM11_360 (by decide) (Nat.le_of_ble_eq_true rfl) rfl rfl (Nat.le_of_ble_eq_true rfl) (Nat.le_of_ble_eq_true rfl) (sh_o hS kk468 (by decide)) (Call.mono (((h.2 c1).1 c2).2.1 c3e) (Nat.le_refl _) ?_)
          rintro _ M10 ⟨z9, rfl, s13, h11⟩
          refine ⟨_, rfl, ?_⟩
          exact r_iret dX11_most_73 rfl h11
        · refine r_tab_eq (tgt := 74) dX11_most_22 c3e (by decide) rfl rfl ?_
          refine r_aload_n dX11_most_74 rfl ?_
          refine r_invV_i dX11_most_75 kM11_477 (by decide) (Nat.le_of_ble_eq_true rfl) rfl rfl (Nat.le_of_ble_eq_true rfl) (Nat.le_of_ble_eq_true rfl) (sh_o hS kk468 (by decide)) (Call.mono (((h.2 c1).1 c2).2.2.1 c3e) (Nat.le_refl _) ?_)
          rintro _ M15 ⟨z14, rfl, s18, h16⟩
          refine ⟨_, rfl, ?_⟩
          exact r_iret dX11_most_78 rfl h16
        · refine r_tab_eq (tgt := 79) dX11_most_22 c3e (by decide) rfl rfl ?_
          refine r_aload_n dX11_most_79 rfl ?_
          refine r_invV_i dX11_most_80 kM11_363 (by decide) (Nat.le_of_ble_eq_true rfl) rfl rfl (Nat.le_of_ble_eq_true rfl) (Nat.le_of_ble_eq_true rfl) (sh_o hS kk468 (by decide)) (Call.mono (((h.2 c1).1 c2).2.2.2.1 c3e) (Nat.le_refl _) ?_)
          rintro _ M20 ⟨z19, rfl, s23, h21⟩
          refine ⟨_, rfl, ?_⟩
          exact r_iret dX11_most_83 rfl h21
        · refine r_tab_eq (tgt := 84) dX11_most_22 c3e (by decide) rfl rfl ?_
          refine r_aload_n dX11_most_84 rfl ?_
          refine r_invV_i dX11_most_85 kM11_480 (by decide) (Nat.le_of_ble_eq_true rfl) rfl rfl (Nat.le_of_ble_eq_true rfl) (Nat.le_of_ble_eq_true rfl) (sh_o hS kk468 (by decide)) (Call.mono (((h.2 c1).1 c2).2.2.2.2.1 c3e) (Nat.le_refl _) ?_)
          rintro _ M25 ⟨z24, rfl, s28, h26⟩
          refine ⟨_, rfl, ?_⟩
          exact r_iret dX11_most_88 rfl h26
        · refine r_tab_eq (tgt := 89) dX11_most_22 c3e (by decide) rfl rfl ?_
          refine r_aload_n dX11_most_89 rfl ?_
          refine r_invV_i dX11_most_90 kM11_483 (by decide) (Nat.le_of_ble_eq_true rfl) rfl rfl (Nat.le_of_ble_eq_true rfl) (Nat.le_of_ble_eq_true rfl) (sh_o hS kk468 (by decide)) (Call.mono (((h.2 c1).1 c2).2.2.2.2.2.1 c3e) (Nat.le_refl _) ?_)
          rintro _ M30 ⟨z29, rfl, s33, h31⟩
          refine ⟨_, rfl, ?_⟩
          exact r_iret dX11_most_93 rfl h31
        · refine r_tab_eq (tgt := 94) dX11_most_22 c3e (by decide) rfl rfl ?_
          refine r_aload_n dX11_most_94 rfl ?_
          refine r_invV_i dX11_most_95 kM11_486 (by decide) (Nat.le_of_ble_eq_true rfl) rfl rfl (Nat.le_of_ble_eq_true rfl) (Nat.le_of_ble_eq_true rfl) (sh_o hS kk468 (by decide)) (Call.mono (((h.2 c1).1 c2).2.2.2.2.2.2.1 c3e) (Nat.le_refl _) ?_)
          rintro _ M35 ⟨z34, rfl, s38, h36⟩
          refine ⟨_, rfl, ?_⟩
          exact r_iret dX11_most_98 rfl h36
    · refine r_ldc_w dX11_most_17 kK11_449 ?_
      exact r_iret dX11_most_20 rfl ((h.2 c1).2 c2)
theorem vn_image {e : Nat} {M : jM} {Q : Option jV → jM → Prop}  (he : 6 ≤ e) (hS : Shp M)
  (h : (((iv M 468 25) ≠ (0 : Int)) → (Run (e + 1) mX11_image 11 [some (vR 468), some (vI (0 : Int))] [] M Q)) ∧ (¬ ((iv M 468 25) ≠ (0 : Int)) → (Q (some (vI (-1 : Int))) M))) :
  Call (e + 1) mX11_image [vR 468] M Q := by
  show Run (e + 1) mX11_image 0 [some (vR 468), none] [] M Q
  refine r_aload_n dX11_image_0 rfl ?_
  refine r_get0 dX11_image_1 kF11_287 (sh_o hS kk468 (by decide)) ?_
  refine r_if_ne dX11_image_4 rfl (fun c1 => ?_) (fun c1 => ?_)
  · refine r_iconst dX11_image_9 (by decide) ?_
    refine r_istore_n (ls2 := [some (vR 468), some (vI (0 : Int))]) dX11_image_10 (Nat.le_of_ble_eq_true rfl) rfl ?_
    exact (h.1 c1)
  · refine r_iconst dX11_image_7 (by decide) ?_
    exact r_iret dX11_image_8 rfl (h.2 c1)
theorem vn_image_11 {e : Nat} {M : jM} {Q : Option jV → jM → Prop} {l1 : Int}  (he : 6 ≤ e) (hS : Shp M)
  (h : (((352 : Int) ≤ l1) → (∀ N3 : jM, N3 = (si M 468 46 (1 : Int)) → Shp N3 → (Q (some (vI (iv N3 486 170))) N3))) ∧ (¬ ((352 : Int) ≤ l1) → ((0 ≤ l1 ∧ l1 < 352) ∧ (∀ N6 : jM, N6 = (si M 498 (l1).toNat (iv M 486 (l1).toNat)) → Shp N6 → (Run (e + 1) mX11_image 11 [some (vR 468), some (vI (w32 (l1 + (1 : Int))))] [] N6 Q))))) :
  Run (e + 1) mX11_image 11 [some (vR 468), some (vI l1)] [] M Q := by
  refine r_iload_n dX11_image_11 rfl ?_
  refine r_sipush dX11_image_12 (by decide) ?_
  refine r_icmp_ge dX11_image_15 rfl (fun c2 => ?_) (fun c2 => ?_)
  · refine r_aload_n dX11_image_36 rfl ?_
    refine r_iconst dX11_image_37 (by decide) ?_
    refine r_put3 dX11_image_38 kF11_299 (sh_o hS kk468 (by decide)) (Or.inl rfl) (by decide) ?_
    have K9 : ∀ N3 : jM, N3 = (si M 468 46 (1 : Int)) → Run (e + 1) mX11_image 41 [some (vR 468), some (vI l1)] [] N3 Q := by
      intro N3 hN8
      have sN4 : Shp N3 := by rw [hN8]; exact hS
      refine r_aload_n dX11_image_41 rfl ?_
      refine r_getS (v := 486) dX11_image_42 kF11_61 (sh_o sN4 kk468 (by decide)) (sh_f sN4 rr468_28 (by decide)) ?_
      refine r_sipush dX11_image_45 (by decide) ?_
      refine r_ialoadK (k := 170) dX11_image_48 rfl (jro_ix (n := 352) (sh_r sN4 kk486 (by decide)) (by decide)) ?_
      exact r_iret dX11_image_49 rfl ((h.1 c2) N3 hN8 sN4)
    exact K9 _ rfl
  · refine r_aload_n dX11_image_18 rfl ?_
    refine r_getS (v := 498) dX11_image_19 kF11_106 (sh_o hS kk468 (by decide)) (sh_f hS rr468_45 (by decide)) ?_
    refine r_iload_n dX11_image_22 rfl ?_
    refine r_aload_n dX11_image_23 rfl ?_
    refine r_getS (v := 486) dX11_image_24 kF11_61 (sh_o hS kk468 (by decide)) (sh_f hS rr468_28 (by decide)) ?_
    refine r_iload_n dX11_image_27 rfl ?_
    have ob5 := (h.2 c2).1
    refine r_iaload dX11_image_28 (jro_ix (sh_r hS kk486 (by decide)) ob5) ?_
    refine r_iastore dX11_image_29 ⟨jro_ix (sh_r hS kk498 (by decide)) ob5, (by decide)⟩ ?_
    have K11 : ∀ N6 : jM, N6 = (si M 498 (l1).toNat (iv M 486 (l1).toNat)) → Run (e + 1) mX11_image 30 [some (vR 468), some (vI l1)] [] N6 Q := by
      intro N6 hN10
      have sN7 : Shp N6 := by rw [hN10]; exact hS
      refine r_iinc (ls2 := [some (vR 468), some (vI (w32 (l1 + (1 : Int))))]) dX11_image_30 rfl rfl ?_
      refine r_goto (tgt := 11) dX11_image_33 rfl ?_
      exact ((h.2 c2).2 N6 hN10 sN7)
    exact K11 _ rfl
theorem vn_back {e : Nat} {M : jM} {Q : Option jV → jM → Prop}  (he : 6 ≤ e) (hS : Shp M)
  (h : (((iv M 468 46) ≠ (0 : Int)) → (Run (e + 1) mX11_back 11 [some (vR 468), some (vI (0 : Int))] [] M Q)) ∧ (¬ ((iv M 468 46) ≠ (0 : Int)) → (Q (some (vI (-1 : Int))) M))) :
  Call (e + 1) mX11_back [vR 468] M Q := by
  show Run (e + 1) mX11_back 0 [some (vR 468), none] [] M Q
  refine r_aload_n dX11_back_0 rfl ?_
  refine r_get3 dX11_back_1 kF11_299 (sh_o hS kk468 (by decide)) ?_
  refine r_if_ne dX11_back_4 rfl (fun c1 => ?_) (fun c1 => ?_)
  · refine r_iconst dX11_back_9 (by decide) ?_
    refine r_istore_n (ls2 := [some (vR 468), some (vI (0 : Int))]) dX11_back_10 (Nat.le_of_ble_eq_true rfl) rfl ?_
    exact (h.1 c1)
  · refine r_iconst dX11_back_7 (by decide) ?_
    exact r_iret dX11_back_8 rfl (h.2 c1)
theorem vn_back_11 {e : Nat} {M : jM} {Q : Option jV → jM → Prop} {l1 : Int}  (he : 6 ≤ e) (hS : Shp M)
  (h : (((352 : Int) ≤ l1) → (∀ N3 : jM, N3 = (si M 468 33 (0 : Int)) → Shp N3 → (Q (some (vI (iv N3 486 170))) N3))) ∧ (¬ ((352 : Int) ≤ l1) → ((0 ≤ l1 ∧ l1 < 352) ∧ (∀ N6 : jM, N6 = (si M 486 (l1).toNat (iv M 498 (l1).toNat)) → Shp N6 → (Run (e + 1) mX11_back 11 [some (vR 468), some (vI (w32 (l1 + (1 : Int))))] [] N6 Q))))) :
  Run (e + 1) mX11_back 11 [some (vR 468), some (vI l1)] [] M Q := by
  refine r_iload_n dX11_back_11 rfl ?_
  refine r_sipush dX11_back_12 (by decide) ?_
  refine r_icmp_ge dX11_back_15 rfl (fun c2 => ?_) (fun c2 => ?_)
  · refine r_aload_n dX11_back_36 rfl ?_
    refine r_iconst dX11_back_37 (by decide) ?_
    refine r_put0 dX11_back_38 kF11_296 (sh_o hS kk468 (by decide)) (Or.inl rfl) ?_
    have K9 : ∀ N3 : jM, N3 = (si M 468 33 (0 : Int)) → Run (e + 1) mX11_back 41 [some (vR 468), some (vI l1)] [] N3 Q := by
      intro N3 hN8
      have sN4 : Shp N3 := by rw [hN8]; exact hS
      refine r_aload_n dX11_back_41 rfl ?_
      refine r_getS (v := 486) dX11_back_42 kF11_61 (sh_o sN4 kk468 (by decide)) (sh_f sN4 rr468_28 (by decide)) ?_
      refine r_sipush dX11_back_45 (by decide) ?_
      refine r_ialoadK (k := 170) dX11_back_48 rfl (jro_ix (n := 352) (sh_r sN4 kk486 (by decide)) (by decide)) ?_
      exact r_iret dX11_back_49 rfl ((h.1 c2) N3 hN8 sN4)
    exact K9 _ rfl
  · refine r_aload_n dX11_back_18 rfl ?_
    refine r_getS (v := 486) dX11_back_19 kF11_61 (sh_o hS kk468 (by decide)) (sh_f hS rr468_28 (by decide)) ?_
    refine r_iload_n dX11_back_22 rfl ?_
    refine r_aload_n dX11_back_23 rfl ?_
    refine r_getS (v := 498) dX11_back_24 kF11_106 (sh_o hS kk468 (by decide)) (sh_f hS rr468_45 (by decide)) ?_
    refine r_iload_n dX11_back_27 rfl ?_
    have ob5 := (h.2 c2).1
    refine r_iaload dX11_back_28 (jro_ix (sh_r hS kk498 (by decide)) ob5) ?_
    refine r_iastore dX11_back_29 ⟨jro_ix (sh_r hS kk486 (by decide)) ob5, (by decide)⟩ ?_
    have K11 : ∀ N6 : jM, N6 = (si M 486 (l1).toNat (iv M 498 (l1).toNat)) → Run (e + 1) mX11_back 30 [some (vR 468), some (vI l1)] [] N6 Q := by
      intro N6 hN10
      have sN7 : Shp N6 := by rw [hN10]; exact hS
      refine r_iinc (ls2 := [some (vR 468), some (vI (w32 (l1 + (1 : Int))))]) dX11_back_30 rfl rfl ?_
      refine r_goto (tgt := 11) dX11_back_33 rfl ?_
      exact ((h.2 c2).2 N6 hN10 sN7)
    exact K11 _ rfl
theorem vn_count {e : Nat} {M : jM} {Q : Option jV → jM → Prop} {w : Int} (he : 6 ≤ e) (hS : Shp M)
  (h : (w = 0 → (Q (some (vI (iv M 468 25))) M)) ∧ (w = 1 → (Q (some (vI (iv M 468 13))) M)) ∧ (w = 2 → (Q (some (vI (iv M 468 2))) M)) ∧ (w = 3 → (Q (some (vI (iv M 468 30))) M)) ∧ (w = 4 → (Q (some (vI (iv M 486 170))) M)) ∧ (w = 5 → (Q (some (vI (iv M 468 31))) M)) ∧ (w = 6 → (Q (some (vI (iv M 468 42))) M)) ∧ (w = 7 → (Q (some (vI (iv M 486 171))) M)) ∧ (w = 8 → (Q (some (vI (iv M 468 33))) M)) ∧ ((w < 0 ∨ 8 < w) → (Q (some (vI (-1000000 : Int))) M))) :
  Call (e + 1) mX11_count [vR 468, vI w] M Q := by
  show Run (e + 1) mX11_count 0 [some (vR 468), some (vI w)] [] M Q
  refine r_iload_n dX11_count_0 rfl ?_
  by_cases c1 : w < 0 ∨ 8 < w
  · refine r_tab_out (tgt := 105) dX11_count_1 c1 rfl ?_
    refine r_ldc_w dX11_count_105 kK11_449 ?_
    exact r_iret dX11_count_108 rfl (h.2.2.2.2.2.2.2.2.2 c1)
  · rcases (show w = 0 ∨ w = 1 ∨ w = 2 ∨ w = 3 ∨ w = 4 ∨ w = 5 ∨ w = 6 ∨ w = 7 ∨ w = 8 by omega) with c1e | c1e | c1e | c1e | c1e | c1e | c1e | c1e | c1e
    · refine r_tab_eq (tgt := 52) dX11_count_1 c1e (by decide) rfl rfl ?_
      refine r_aload_n dX11_count_52 rfl ?_
      refine r_get0 dX11_count_53 kF11_287 (sh_o hS kk468 (by decide)) ?_
      exact r_iret dX11_count_56 rfl (h.1 c1e)
    · refine r_tab_eq (tgt := 57) dX11_count_1 c1e (by decide) rfl rfl ?_
      refine r_aload_n dX11_count_57 rfl ?_
      refine r_get0 dX11_count_58 kF11_306 (sh_o hS kk468 (by decide)) ?_
      exact r_iret dX11_count_61 rfl (h.2.1 c1e)
    · refine r_tab_eq (tgt := 62) dX11_count_1 c1e (by decide) rfl rfl ?_
      refine r_aload_n dX11_count_62 rfl ?_
      refine r_get0 dX11_count_63 kF11_116 (sh_o hS kk468 (by decide)) ?_
      exact r_iret dX11_count_66 rfl (h.2.2.1 c1e)
    · refine r_tab_eq (tgt := 67) dX11_count_1 c1e (by decide) rfl rfl ?_
      refine r_aload_n dX11_count_67 rfl ?_
      refine r_get0 dX11_count_68 kF11_67 (sh_o hS kk468 (by decide)) ?_
      exact r_iret dX11_count_71 rfl (h.2.2.2.1 c1e)
    · refine r_tab_eq (tgt := 72) dX11_count_1 c1e (by decide) rfl rfl ?_
      refine r_aload_n dX11_count_72 rfl ?_
      refine r_getS (v := 486) dX11_count_73 kF11_61 (sh_o hS kk468 (by decide)) (sh_f hS rr468_28 (by decide)) ?_
      refine r_sipush dX11_count_76 (by decide) ?_
      refine r_ialoadK (k := 170) dX11_count_79 rfl (jro_ix (n := 352) (sh_r hS kk486 (by decide)) (by decide)) ?_
      exact r_iret dX11_count_80 rfl (h.2.2.2.2.1 c1e)
    · refine r_tab_eq (tgt := 81) dX11_count_1 c1e (by decide) rfl rfl ?_
      refine r_aload_n dX11_count_81 rfl ?_
      refine r_get0 dX11_count_82 kF11_71 (sh_o hS kk468 (by decide)) ?_
      exact r_iret dX11_count_85 rfl (h.2.2.2.2.2.1 c1e)
    · refine r_tab_eq (tgt := 86) dX11_count_1 c1e (by decide) rfl rfl ?_
      refine r_aload_n dX11_count_86 rfl ?_
      refine r_get0 dX11_count_87 kF11_293 (sh_o hS kk468 (by decide)) ?_
      exact r_iret dX11_count_90 rfl (h.2.2.2.2.2.2.1 c1e)
    · refine r_tab_eq (tgt := 91) dX11_count_1 c1e (by decide) rfl rfl ?_
      refine r_aload_n dX11_count_91 rfl ?_
      refine r_getS (v := 486) dX11_count_92 kF11_61 (sh_o hS kk468 (by decide)) (sh_f hS rr468_28 (by decide)) ?_
      refine r_sipush dX11_count_95 (by decide) ?_
      refine r_ialoadK (k := 171) dX11_count_98 rfl (jro_ix (n := 352) (sh_r hS kk486 (by decide)) (by decide)) ?_
      exact r_iret dX11_count_99 rfl (h.2.2.2.2.2.2.2.1 c1e)
    · refine r_tab_eq (tgt := 100) dX11_count_1 c1e (by decide) rfl rfl ?_
      refine r_aload_n dX11_count_100 rfl ?_
      refine r_get0 dX11_count_101 kF11_296 (sh_o hS kk468 (by decide)) ?_
      exact r_iret dX11_count_104 rfl (h.2.2.2.2.2.2.2.2.1 c1e)
