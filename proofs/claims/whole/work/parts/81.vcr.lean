theorem vr_clear {e : Nat} {M : jM} {Q : Option jV → jM → Prop}  (he : 4 ≤ e) (hS : Shp M)
  (h : ∀ N1 : jM, N1 = (si M 387 4 (0 : Int)) → Shp N1 → (∀ N3 : jM, N3 = (si N1 387 5 (0 : Int)) → Shp N3 → (Q none N3))) :
  Call (e + 1) mX6_clear [vR 387] M Q := by
  show Run (e + 1) mX6_clear 0 [some (vR 387)] [] M Q
  refine r_aload_n dX6_clear_0 rfl ?_
  refine r_iconst dX6_clear_1 (by decide) ?_
  refine r_put0 dX6_clear_2 kF6_47 (sh_o hS kk387 (by decide)) (Or.inl rfl) ?_
  have K6 : ∀ N1 : jM, N1 = (si M 387 4 (0 : Int)) → Run (e + 1) mX6_clear 5 [some (vR 387)] [] N1 Q := by
    intro N1 hN5
    have sN2 : Shp N1 := by rw [hN5]; exact hS
    refine r_aload_n dX6_clear_5 rfl ?_
    refine r_iconst dX6_clear_6 (by decide) ?_
    refine r_put3 dX6_clear_7 kF6_51 (sh_o sN2 kk387 (by decide)) (Or.inl rfl) (by decide) ?_
    have K8 : ∀ N3 : jM, N3 = (si N1 387 5 (0 : Int)) → Run (e + 1) mX6_clear 10 [some (vR 387)] [] N3 Q := by
      intro N3 hN7
      have sN4 : Shp N3 := by rw [hN7]; exact sN2
      exact r_vret dX6_clear_10 rfl ((h N1 hN5 sN2) N3 hN7 sN4)
    exact K8 _ rfl
  exact K6 _ rfl
theorem vr_note {e : Nat} {M : jM} {Q : Option jV → jM → Prop} {p : Int} {n : Int} {v : Int} {mo : Int} (he : 4 ≤ e) (hS : Shp M)
  (h : (((iv M 387 4) < (10 : Int)) → (∀ N2 : jM, N2 = (ptv M 10 388 (iv M 387 4) p) → Shp N2 → (∀ N4 : jM, N4 = (ptv N2 10 389 (iv N2 387 4) n) → Shp N4 → (∀ N6 : jM, N6 = (ptv N4 10 390 (iv N4 387 4) v) → Shp N6 → (∀ N8 : jM, N8 = (ptv N6 10 391 (iv N6 387 4) (if mo = (0 : Int) then (0 : Int) else (1 : Int))) → Shp N8 → (∀ N10 : jM, N10 = (si N8 387 4 (w32 ((iv N8 387 4) + (1 : Int)))) → Shp N10 → (∀ N12 : jM, N12 = (si N10 387 5 (0 : Int)) → Shp N12 → (Q (some (vI (1 : Int))) N12)))))))) ∧ (¬ ((iv M 387 4) < (10 : Int)) → (Q (some (vI (0 : Int))) M))) :
  Call (e + 1) mX6_note [vR 387, vI p, vI n, vI v, vI mo] M Q := by
  show Run (e + 1) mX6_note 0 [some (vR 387), some (vI p), some (vI n), some (vI v), some (vI mo)] [] M Q
  refine r_aload_n dX6_note_0 rfl ?_
  refine r_get0 dX6_note_1 kF6_47 (sh_o hS kk387 (by decide)) ?_
  refine r_bipush dX6_note_4 (by decide) ?_
  refine r_icmp_lt dX6_note_6 rfl (fun c1 => ?_) (fun c1 => ?_)
  · refine r_aload_n dX6_note_11 rfl ?_
    refine r_getS (v := 388) dX6_note_12 kF6_11 (sh_o hS kk387 (by decide)) (sh_f hS rr387_0 (by decide)) ?_
    refine r_aload_n dX6_note_15 rfl ?_
    refine r_get0 dX6_note_16 kF6_47 (sh_o hS kk387 (by decide)) ?_
    refine r_iload_n dX6_note_19 rfl ?_
    refine r_invS_v dX6_note_20 (by decide) kXn6_55 kM6_55 (by decide) (Nat.le_of_ble_eq_true rfl) rfl rfl (Nat.le_of_ble_eq_true rfl) (Nat.le_of_ble_eq_true rfl) (c_put (by omega) (sh_r hS kk388 (by decide)) (by decide) ⟨rfl, ?_⟩)
    have K15 : ∀ N2 : jM, N2 = (ptv M 10 388 (iv M 387 4) p) → Run (e + 1) mX6_note 23 [some (vR 387), some (vI p), some (vI n), some (vI v), some (vI mo)] [] N2 Q := by
      intro N2 hN14
      have sN3 : Shp N2 := by rw [hN14]; exact hS
      refine r_aload_n dX6_note_23 rfl ?_
      refine r_getS (v := 389) dX6_note_24 kF6_15 (sh_o sN3 kk387 (by decide)) (sh_f sN3 rr387_1 (by decide)) ?_
      refine r_aload_n dX6_note_27 rfl ?_
      refine r_get0 dX6_note_28 kF6_47 (sh_o sN3 kk387 (by decide)) ?_
      refine r_iload_n dX6_note_31 rfl ?_
      refine r_invS_v dX6_note_32 (by decide) kXn6_55 kM6_55 (by decide) (Nat.le_of_ble_eq_true rfl) rfl rfl (Nat.le_of_ble_eq_true rfl) (Nat.le_of_ble_eq_true rfl) (c_put (by omega) (sh_r sN3 kk389 (by decide)) (by decide) ⟨rfl, ?_⟩)
      have K17 : ∀ N4 : jM, N4 = (ptv N2 10 389 (iv N2 387 4) n) → Run (e + 1) mX6_note 35 [some (vR 387), some (vI p), some (vI n), some (vI v), some (vI mo)] [] N4 Q := by
        intro N4 hN16
        have sN5 : Shp N4 := by rw [hN16]; exact sN3
        refine r_aload_n dX6_note_35 rfl ?_
        refine r_getS (v := 390) dX6_note_36 kF6_18 (sh_o sN5 kk387 (by decide)) (sh_f sN5 rr387_2 (by decide)) ?_
        refine r_aload_n dX6_note_39 rfl ?_
        refine r_get0 dX6_note_40 kF6_47 (sh_o sN5 kk387 (by decide)) ?_
        refine r_iload_n dX6_note_43 rfl ?_
        refine r_invS_v dX6_note_44 (by decide) kXn6_55 kM6_55 (by decide) (Nat.le_of_ble_eq_true rfl) rfl rfl (Nat.le_of_ble_eq_true rfl) (Nat.le_of_ble_eq_true rfl) (c_put (by omega) (sh_r sN5 kk390 (by decide)) (by decide) ⟨rfl, ?_⟩)
        have K19 : ∀ N6 : jM, N6 = (ptv N4 10 390 (iv N4 387 4) v) → Run (e + 1) mX6_note 47 [some (vR 387), some (vI p), some (vI n), some (vI v), some (vI mo)] [] N6 Q := by
          intro N6 hN18
          have sN7 : Shp N6 := by rw [hN18]; exact sN5
          refine r_aload_n dX6_note_47 rfl ?_
          refine r_getS (v := 391) dX6_note_48 kF6_21 (sh_o sN7 kk387 (by decide)) (sh_f sN7 rr387_3 (by decide)) ?_
          refine r_aload_n dX6_note_51 rfl ?_
          refine r_get0 dX6_note_52 kF6_47 (sh_o sN7 kk387 (by decide)) ?_
          refine r_iload dX6_note_55 rfl ?_
          have K20 : Run (e + 1) mX6_note 65 [some (vR 387), some (vI p), some (vI n), some (vI v), some (vI mo)] [vI (if mo = (0 : Int) then (0 : Int) else (1 : Int)), vI (iv N6 387 4), vR 391] N6 Q := by
            refine r_invS_v dX6_note_65 (by decide) kXn6_55 kM6_55 (by decide) (Nat.le_of_ble_eq_true rfl) rfl rfl (Nat.le_of_ble_eq_true rfl) (Nat.le_of_ble_eq_true rfl) (c_put (by omega) (sh_r sN7 kk391 (by decide)) (by decide) ⟨rfl, ?_⟩)
            have K22 : ∀ N8 : jM, N8 = (ptv N6 10 391 (iv N6 387 4) (if mo = (0 : Int) then (0 : Int) else (1 : Int))) → Run (e + 1) mX6_note 68 [some (vR 387), some (vI p), some (vI n), some (vI v), some (vI mo)] [] N8 Q := by
              intro N8 hN21
              have sN9 : Shp N8 := by rw [hN21]; exact sN7
              refine r_aload_n dX6_note_68 rfl ?_
              refine r_dupR dX6_note_69 ?_
              refine r_get0 dX6_note_70 kF6_47 (sh_o sN9 kk387 (by decide)) ?_
              refine r_iconst dX6_note_73 (by decide) ?_
              refine r_iadd dX6_note_74 ?_
              refine r_put0 dX6_note_75 kF6_47 (sh_o sN9 kk387 (by decide)) (Or.inl rfl) ?_
              have K24 : ∀ N10 : jM, N10 = (si N8 387 4 (w32 ((iv N8 387 4) + (1 : Int)))) → Run (e + 1) mX6_note 78 [some (vR 387), some (vI p), some (vI n), some (vI v), some (vI mo)] [] N10 Q := by
                intro N10 hN23
                have sN11 : Shp N10 := by rw [hN23]; exact sN9
                refine r_aload_n dX6_note_78 rfl ?_
                refine r_iconst dX6_note_79 (by decide) ?_
                refine r_put3 dX6_note_80 kF6_51 (sh_o sN11 kk387 (by decide)) (Or.inl rfl) (by decide) ?_
                have K26 : ∀ N12 : jM, N12 = (si N10 387 5 (0 : Int)) → Run (e + 1) mX6_note 83 [some (vR 387), some (vI p), some (vI n), some (vI v), some (vI mo)] [] N12 Q := by
                  intro N12 hN25
                  have sN13 : Shp N12 := by rw [hN25]; exact sN11
                  refine r_iconst dX6_note_83 (by decide) ?_
                  exact r_zret dX6_note_84 rfl (by decide) (((((((h.1 c1) N2 hN14 sN3) N4 hN16 sN5) N6 hN18 sN7) N8 hN21 sN9) N10 hN23 sN11) N12 hN25 sN13)
                exact K26 _ rfl
              exact K24 _ rfl
            exact K22 _ rfl
          refine r_if_eq dX6_note_57 rfl (fun q27 => ?_) (fun q27 => ?_)
          · rw [if_pos q27] at K20
            refine r_iconst dX6_note_64 (by decide) ?_
            exact K20
          · rw [if_neg q27] at K20
            refine r_iconst dX6_note_60 (by decide) ?_
            refine r_goto (tgt := 65) dX6_note_61 rfl ?_
            exact K20
        exact K19 _ rfl
      exact K17 _ rfl
    exact K15 _ rfl
  · refine r_iconst dX6_note_9 (by decide) ?_
    exact r_zret dX6_note_10 rfl (by decide) (h.2 c1)
theorem vr_solve {e : Nat} {M : jM} {Q : Option jV → jM → Prop}  (he : 4 ≤ e) (hS : Shp M)
  (h : (((iv M 387 5) = (0 : Int)) → (Call e mX6_weighTold [vR 387, vR 29, vR 41] M (fun r5 M3 => r5 = none ∧ Shp M3 ∧ (∀ N7 : jM, N7 = (si M3 387 11 (0 : Int)) → Shp N7 → (Run (e + 1) mX6_solve 21 [some (vR 387), some (vR 29), some (vR 41), some (vI (0 : Int)), none] [] N7 Q))))) ∧ (¬ ((iv M 387 5) = (0 : Int)) → (Q none M))) :
  Call (e + 1) mX6_solve [vR 387, vR 29, vR 41] M Q := by
  show Run (e + 1) mX6_solve 0 [some (vR 387), some (vR 29), some (vR 41), none, none] [] M Q
  refine r_aload_n dX6_solve_0 rfl ?_
  refine r_get3 dX6_solve_1 kF6_51 (sh_o hS kk387 (by decide)) ?_
  refine r_if_eq dX6_solve_4 rfl (fun c1 => ?_) (fun c1 => ?_)
  · refine r_aload_n dX6_solve_8 rfl ?_
    refine r_aload_n dX6_solve_9 rfl ?_
    refine r_aload_n dX6_solve_10 rfl ?_
    refine r_invV_v dX6_solve_11 kM6_59 (by decide) (Nat.le_of_ble_eq_true rfl) rfl rfl (Nat.le_of_ble_eq_true rfl) (Nat.le_of_ble_eq_true rfl) (sh_o hS kk387 (by decide)) (Call.mono (h.1 c1) (Nat.le_refl _) ?_)
    rintro _ M3 ⟨rfl, s6, h4⟩
    refine ⟨rfl, ?_⟩
    refine r_aload_n dX6_solve_14 rfl ?_
    refine r_iconst dX6_solve_15 (by decide) ?_
    refine r_put0 dX6_solve_16 kF6_63 (sh_o s6 kk387 (by decide)) (Or.inl rfl) ?_
    have K10 : ∀ N7 : jM, N7 = (si M3 387 11 (0 : Int)) → Run (e + 1) mX6_solve 19 [some (vR 387), some (vR 29), some (vR 41), none, none] [] N7 Q := by
      intro N7 hN9
      have sN8 : Shp N7 := by rw [hN9]; exact s6
      refine r_iconst dX6_solve_19 (by decide) ?_
      refine r_istore_n (ls2 := [some (vR 387), some (vR 29), some (vR 41), some (vI (0 : Int)), none]) dX6_solve_20 (Nat.le_of_ble_eq_true rfl) rfl ?_
      exact (h4 N7 hN9 sN8)
    exact K10 _ rfl
  · exact r_vret dX6_solve_7 rfl (h.2 c1)
theorem vr_solve_21 {e : Nat} {M : jM} {Q : Option jV → jM → Prop} {l3 : Int} {l4 : Option jV}  (he : 4 ≤ e) (hS : Shp M)
  (h : (((iv M 29 0) ≤ l3) → (∀ N12 : jM, N12 = (si M 387 5 (1 : Int)) → Shp N12 → (Q none N12))) ∧ (¬ ((iv M 29 0) ≤ l3) → (Call e mX7_emptyPlace [vR 41, vI l3] M (fun r17 M15 => ∃ z14 : Int, r17 = some (vI z14) ∧ Shp M15 ∧ (((z14 ≠ (-1 : Int)) → (Run (e + 1) mX6_solve 44 [some (vR 387), some (vR 29), some (vR 41), some (vI l3), some (vI (0 : Int))] [] M15 Q)) ∧ (¬ (z14 ≠ (-1 : Int)) → (Run (e + 1) mX6_solve 21 [some (vR 387), some (vR 29), some (vR 41), some (vI (w32 (l3 + (1 : Int)))), l4] [] M15 Q))))))) :
  Run (e + 1) mX6_solve 21 [some (vR 387), some (vR 29), some (vR 41), some (vI l3), l4] [] M Q := by
  refine r_iload_n dX6_solve_21 rfl ?_
  refine r_aload_n dX6_solve_22 rfl ?_
  refine r_get0 dX6_solve_23 kF6_66 (sh_o hS kk29 (by decide)) ?_
  refine r_icmp_ge dX6_solve_26 rfl (fun c11 => ?_) (fun c11 => ?_)
  · refine r_aload_n dX6_solve_117 rfl ?_
    refine r_iconst dX6_solve_118 (by decide) ?_
    refine r_put3 dX6_solve_119 kF6_51 (sh_o hS kk387 (by decide)) (Or.inl rfl) (by decide) ?_
    have K21 : ∀ N12 : jM, N12 = (si M 387 5 (1 : Int)) → Run (e + 1) mX6_solve 122 [some (vR 387), some (vR 29), some (vR 41), some (vI l3), l4] [] N12 Q := by
      intro N12 hN20
      have sN13 : Shp N12 := by rw [hN20]; exact hS
      exact r_vret dX6_solve_122 rfl ((h.1 c11) N12 hN20 sN13)
    exact K21 _ rfl
  · refine r_aload_n dX6_solve_29 rfl ?_
    refine r_iload_n dX6_solve_30 rfl ?_
    refine r_invV_i dX6_solve_31 kM6_71 (by decide) (Nat.le_of_ble_eq_true rfl) rfl rfl (Nat.le_of_ble_eq_true rfl) (Nat.le_of_ble_eq_true rfl) (sh_o hS kk41 (by decide)) (Call.mono (h.2 c11) (Nat.le_refl _) ?_)
    rintro _ M15 ⟨z14, rfl, s18, h16⟩
    refine ⟨_, rfl, ?_⟩
    refine r_iconst dX6_solve_34 (by decide) ?_
    refine r_icmp_ne dX6_solve_35 rfl (fun c19 => ?_) (fun c19 => ?_)
    · refine r_iconst dX6_solve_41 (by decide) ?_
      refine r_istore (ls2 := [some (vR 387), some (vR 29), some (vR 41), some (vI l3), some (vI (0 : Int))]) dX6_solve_42 (Nat.le_of_ble_eq_true rfl) rfl ?_
      exact (h16.1 c19)
    · refine r_goto (tgt := 111) dX6_solve_38 rfl ?_
      refine r_iinc (ls2 := [some (vR 387), some (vR 29), some (vR 41), some (vI (w32 (l3 + (1 : Int)))), l4]) dX6_solve_111 rfl rfl ?_
      refine r_goto (tgt := 21) dX6_solve_114 rfl ?_
      exact (h16.2 c19)
theorem vr_solve_44 {e : Nat} {M : jM} {Q : Option jV → jM → Prop} {l3 : Int} {l4 : Int}  (he : 4 ≤ e) (hS : Shp M)
  (h : (((3 : Int) ≤ l4) → (Run (e + 1) mX6_solve 81 [some (vR 387), some (vR 29), some (vR 41), some (vI l3), some (vI (0 : Int))] [] M Q)) ∧ (¬ ((3 : Int) ≤ l4) → ((((fG (atv M 8 31 l3) l4) = (0 : Int)) → (Run (e + 1) mX6_solve 44 [some (vR 387), some (vR 29), some (vR 41), some (vI l3), some (vI (w32 (l4 + (1 : Int))))] [] M Q)) ∧ (¬ ((fG (atv M 8 31 l3) l4) = (0 : Int)) → (Call e mX6_weighPossible [vR 387, vR 29, vI (iv M 41 7), vI l3, vI l4] M (fun r27 M25 => r27 = none ∧ Shp M25 ∧ (Run (e + 1) mX6_solve 44 [some (vR 387), some (vR 29), some (vR 41), some (vI l3), some (vI (w32 (l4 + (1 : Int))))] [] M25 Q))))))) :
  Run (e + 1) mX6_solve 44 [some (vR 387), some (vR 29), some (vR 41), some (vI l3), some (vI l4)] [] M Q := by
  refine r_iload dX6_solve_44 rfl ?_
  refine r_iconst dX6_solve_46 (by decide) ?_
  refine r_icmp_ge dX6_solve_47 rfl (fun c22 => ?_) (fun c22 => ?_)
  · refine r_iconst dX6_solve_78 (by decide) ?_
    refine r_istore (ls2 := [some (vR 387), some (vR 29), some (vR 41), some (vI l3), some (vI (0 : Int))]) dX6_solve_79 (Nat.le_of_ble_eq_true rfl) rfl ?_
    exact (h.1 c22)
  · refine r_aload_n dX6_solve_50 rfl ?_
    refine r_iload_n dX6_solve_51 rfl ?_
    refine r_iload dX6_solve_52 rfl ?_
    refine r_invV_i dX6_solve_54 kM6_75 (by decide) (Nat.le_of_ble_eq_true rfl) rfl rfl (Nat.le_of_ble_eq_true rfl) (Nat.le_of_ble_eq_true rfl) (sh_o hS kk29 (by decide)) (c_takes (by omega) hS ⟨_, rfl, ?_⟩)
    refine r_if_eq dX6_solve_57 rfl (fun c23 => ?_) (fun c23 => ?_)
    · refine r_iinc (ls2 := [some (vR 387), some (vR 29), some (vR 41), some (vI l3), some (vI (w32 (l4 + (1 : Int))))]) dX6_solve_72 rfl rfl ?_
      refine r_goto (tgt := 44) dX6_solve_75 rfl ?_
      exact ((h.2 c22).1 c23)
    · refine r_aload_n dX6_solve_60 rfl ?_
      refine r_aload_n dX6_solve_61 rfl ?_
      refine r_aload_n dX6_solve_62 rfl ?_
      refine r_get0 dX6_solve_63 kF6_79 (sh_o hS kk41 (by decide)) ?_
      refine r_iload_n dX6_solve_66 rfl ?_
      refine r_iload dX6_solve_67 rfl ?_
      refine r_invV_v dX6_solve_69 kM6_82 (by decide) (Nat.le_of_ble_eq_true rfl) rfl rfl (Nat.le_of_ble_eq_true rfl) (Nat.le_of_ble_eq_true rfl) (sh_o hS kk387 (by decide)) (Call.mono ((h.2 c22).2 c23) (Nat.le_refl _) ?_)
      rintro _ M25 ⟨rfl, s28, h26⟩
      refine ⟨rfl, ?_⟩
      refine r_iinc (ls2 := [some (vR 387), some (vR 29), some (vR 41), some (vI l3), some (vI (w32 (l4 + (1 : Int))))]) dX6_solve_72 rfl rfl ?_
      refine r_goto (tgt := 44) dX6_solve_75 rfl ?_
      exact h26
theorem vr_solve_81 {e : Nat} {M : jM} {Q : Option jV → jM → Prop} {l3 : Int} {l4 : Int}  (he : 4 ≤ e) (hS : Shp M)
  (h : (((iv M 29 0) ≤ l4) → (Run (e + 1) mX6_solve 21 [some (vR 387), some (vR 29), some (vR 41), some (vI (w32 (l3 + (1 : Int)))), some (vI l4)] [] M Q)) ∧ (¬ ((iv M 29 0) ≤ l4) → (((l4 = l3) → (Run (e + 1) mX6_solve 81 [some (vR 387), some (vR 29), some (vR 41), some (vI l3), some (vI (w32 (l4 + (1 : Int))))] [] M Q)) ∧ (¬ (l4 = l3) → (Call e mX6_collect [vR 387, vR 29, vR 41, vI l3, vI l4] M (fun r34 M32 => r34 = none ∧ Shp M32 ∧ (Run (e + 1) mX6_solve 81 [some (vR 387), some (vR 29), some (vR 41), some (vI l3), some (vI (w32 (l4 + (1 : Int))))] [] M32 Q))))))) :
  Run (e + 1) mX6_solve 81 [some (vR 387), some (vR 29), some (vR 41), some (vI l3), some (vI l4)] [] M Q := by
  refine r_iload dX6_solve_81 rfl ?_
  refine r_aload_n dX6_solve_83 rfl ?_
  refine r_get0 dX6_solve_84 kF6_66 (sh_o hS kk29 (by decide)) ?_
  refine r_icmp_ge dX6_solve_87 rfl (fun c29 => ?_) (fun c29 => ?_)
  · refine r_iinc (ls2 := [some (vR 387), some (vR 29), some (vR 41), some (vI (w32 (l3 + (1 : Int)))), some (vI l4)]) dX6_solve_111 rfl rfl ?_
    refine r_goto (tgt := 21) dX6_solve_114 rfl ?_
    exact (h.1 c29)
  · refine r_iload dX6_solve_90 rfl ?_
    refine r_iload_n dX6_solve_92 rfl ?_
    refine r_icmp_eq dX6_solve_93 rfl (fun c30 => ?_) (fun c30 => ?_)
    · refine r_iinc (ls2 := [some (vR 387), some (vR 29), some (vR 41), some (vI l3), some (vI (w32 (l4 + (1 : Int))))]) dX6_solve_105 rfl rfl ?_
      refine r_goto (tgt := 81) dX6_solve_108 rfl ?_
      exact ((h.2 c29).1 c30)
    · refine r_aload_n dX6_solve_96 rfl ?_
      refine r_aload_n dX6_solve_97 rfl ?_
      refine r_aload_n dX6_solve_98 rfl ?_
      refine r_iload_n dX6_solve_99 rfl ?_
      refine r_iload dX6_solve_100 rfl ?_
      refine r_invV_v dX6_solve_102 kM6_86 (by decide) (Nat.le_of_ble_eq_true rfl) rfl rfl (Nat.le_of_ble_eq_true rfl) (Nat.le_of_ble_eq_true rfl) (sh_o hS kk387 (by decide)) (Call.mono ((h.2 c29).2 c30) (Nat.le_refl _) ?_)
      rintro _ M32 ⟨rfl, s35, h33⟩
      refine ⟨rfl, ?_⟩
      refine r_iinc (ls2 := [some (vR 387), some (vR 29), some (vR 41), some (vI l3), some (vI (w32 (l4 + (1 : Int))))]) dX6_solve_105 rfl rfl ?_
      refine r_goto (tgt := 81) dX6_solve_108 rfl ?_
      exact h33
theorem vr_told {e : Nat} {M : jM} {Q : Option jV → jM → Prop}  (he : 4 ≤ e) (hS : Shp M)
  (h : Call e mX7_copyMinds [vR 392, vR 41] M (fun r4 M2 => r4 = none ∧ Shp M2 ∧ (Run (e + 1) mX6_weighTold 10 [some (vR 387), some (vR 29), some (vR 41), some (vI (0 : Int)), none] [] M2 Q))) :
  Call (e + 1) mX6_weighTold [vR 387, vR 29, vR 41] M Q := by
  show Run (e + 1) mX6_weighTold 0 [some (vR 387), some (vR 29), some (vR 41), none, none] [] M Q
  refine r_aload_n dX6_weighTold_0 rfl ?_
  refine r_getS (v := 392) dX6_weighTold_1 kF6_27 (sh_o hS kk387 (by decide)) (sh_f hS rr387_6 (by decide)) ?_
  refine r_aload_n dX6_weighTold_4 rfl ?_
  refine r_invV_v dX6_weighTold_5 kM6_90 (by decide) (Nat.le_of_ble_eq_true rfl) rfl rfl (Nat.le_of_ble_eq_true rfl) (Nat.le_of_ble_eq_true rfl) (sh_o hS kk392 (by decide)) (Call.mono h (Nat.le_refl _) ?_)
  rintro _ M2 ⟨rfl, s5, h3⟩
  refine ⟨rfl, ?_⟩
  refine r_iconst dX6_weighTold_8 (by decide) ?_
  refine r_istore_n (ls2 := [some (vR 387), some (vR 29), some (vR 41), some (vI (0 : Int)), none]) dX6_weighTold_9 (Nat.le_of_ble_eq_true rfl) rfl ?_
  exact h3
theorem vr_told_10 {e : Nat} {M : jM} {Q : Option jV → jM → Prop} {l3 : Int} {l4 : Option jV}  (he : 4 ≤ e) (hS : Shp M)
  (h : (((9 : Int) ≤ l3) → (Q none M)) ∧ (¬ ((9 : Int) ≤ l3) → (Call e mX1_weigh [vR 29, vR 392] M (fun r10 M8 => r10 = none ∧ Shp M8 ∧ (Run (e + 1) mX6_weighTold 27 [some (vR 387), some (vR 29), some (vR 41), some (vI l3), some (vI (0 : Int))] [] M8 Q))))) :
  Run (e + 1) mX6_weighTold 10 [some (vR 387), some (vR 29), some (vR 41), some (vI l3), l4] [] M Q := by
  refine r_iload_n dX6_weighTold_10 rfl ?_
  refine r_bipush dX6_weighTold_11 (by decide) ?_
  refine r_icmp_ge dX6_weighTold_13 rfl (fun c6 => ?_) (fun c6 => ?_)
  · exact r_vret dX6_weighTold_120 rfl (h.1 c6)
  · refine r_aload_n dX6_weighTold_16 rfl ?_
    refine r_aload_n dX6_weighTold_17 rfl ?_
    refine r_getS (v := 392) dX6_weighTold_18 kF6_27 (sh_o hS kk387 (by decide)) (sh_f hS rr387_6 (by decide)) ?_
    refine r_invV_v dX6_weighTold_21 kM6_94 (by decide) (Nat.le_of_ble_eq_true rfl) rfl rfl (Nat.le_of_ble_eq_true rfl) (Nat.le_of_ble_eq_true rfl) (sh_o hS kk29 (by decide)) (Call.mono (h.2 c6) (Nat.le_refl _) ?_)
    rintro _ M8 ⟨rfl, s11, h9⟩
    refine ⟨rfl, ?_⟩
    refine r_iconst dX6_weighTold_24 (by decide) ?_
    refine r_istore (ls2 := [some (vR 387), some (vR 29), some (vR 41), some (vI l3), some (vI (0 : Int))]) dX6_weighTold_25 (Nat.le_of_ble_eq_true rfl) rfl ?_
    exact h9
theorem vr_told_27 {e : Nat} {M : jM} {Q : Option jV → jM → Prop} {l3 : Int} {l4 : Int}  (he : 4 ≤ e) (hS : Shp M)
  (h : (((32 : Int) ≤ l4) → (Run (e + 1) mX6_weighTold 69 [some (vR 387), some (vR 29), some (vR 41), some (vI l3), some (vI (0 : Int))] [] M Q)) ∧ (¬ ((32 : Int) ≤ l4) → (∀ N13 : jM, N13 = (ptv M 288 400 (w32 ((w32 (l3 * (32 : Int))) + l4)) (atv M 32 397 l4)) → Shp N13 → (Run (e + 1) mX6_weighTold 27 [some (vR 387), some (vR 29), some (vR 41), some (vI l3), some (vI (w32 (l4 + (1 : Int))))] [] N13 Q)))) :
  Run (e + 1) mX6_weighTold 27 [some (vR 387), some (vR 29), some (vR 41), some (vI l3), some (vI l4)] [] M Q := by
  refine r_iload dX6_weighTold_27 rfl ?_
  refine r_bipush dX6_weighTold_29 (by decide) ?_
  refine r_icmp_ge dX6_weighTold_31 rfl (fun c12 => ?_) (fun c12 => ?_)
  · refine r_iconst dX6_weighTold_66 (by decide) ?_
    refine r_istore (ls2 := [some (vR 387), some (vR 29), some (vR 41), some (vI l3), some (vI (0 : Int))]) dX6_weighTold_67 (Nat.le_of_ble_eq_true rfl) rfl ?_
    exact (h.1 c12)
  · refine r_aload_n dX6_weighTold_34 rfl ?_
    refine r_getS (v := 400) dX6_weighTold_35 kF6_31 (sh_o hS kk387 (by decide)) (sh_f hS rr387_7 (by decide)) ?_
    refine r_iload_n dX6_weighTold_38 rfl ?_
    refine r_bipush dX6_weighTold_39 (by decide) ?_
    refine r_imul dX6_weighTold_41 ?_
    refine r_iload dX6_weighTold_42 rfl ?_
    refine r_iadd dX6_weighTold_44 ?_
    refine r_aload_n dX6_weighTold_45 rfl ?_
    refine r_getS (v := 392) dX6_weighTold_46 kF6_27 (sh_o hS kk387 (by decide)) (sh_f hS rr387_6 (by decide)) ?_
    refine r_getS (v := 397) dX6_weighTold_49 kF6_97 (sh_o hS kk392 (by decide)) (st_f4 hS (by decide)) ?_
    refine r_iload dX6_weighTold_52 rfl ?_
    refine r_invS_i dX6_weighTold_54 (by decide) kXn6_100 kM6_100 (by decide) (Nat.le_of_ble_eq_true rfl) rfl rfl (Nat.le_of_ble_eq_true rfl) (Nat.le_of_ble_eq_true rfl) (c_at (by omega) (sh_r hS kk397 (by decide)) ⟨_, rfl, ?_⟩)
    refine r_invS_v dX6_weighTold_57 (by decide) kXn6_55 kM6_55 (by decide) (Nat.le_of_ble_eq_true rfl) rfl rfl (Nat.le_of_ble_eq_true rfl) (Nat.le_of_ble_eq_true rfl) (c_put (by omega) (sh_r hS kk400 (by decide)) (by decide) ⟨rfl, ?_⟩)
    have K16 : ∀ N13 : jM, N13 = (ptv M 288 400 (w32 ((w32 (l3 * (32 : Int))) + l4)) (atv M 32 397 l4)) → Run (e + 1) mX6_weighTold 60 [some (vR 387), some (vR 29), some (vR 41), some (vI l3), some (vI l4)] [] N13 Q := by
      intro N13 hN15
      have sN14 : Shp N13 := by rw [hN15]; exact hS
      refine r_iinc (ls2 := [some (vR 387), some (vR 29), some (vR 41), some (vI l3), some (vI (w32 (l4 + (1 : Int))))]) dX6_weighTold_60 rfl rfl ?_
      refine r_goto (tgt := 27) dX6_weighTold_63 rfl ?_
      exact ((h.2 c12) N13 hN15 sN14)
    exact K16 _ rfl
theorem vr_told_69 {e : Nat} {M : jM} {Q : Option jV → jM → Prop} {l3 : Int} {l4 : Int}  (he : 4 ≤ e) (hS : Shp M)
  (h : (((iv M 29 0) ≤ l4) → (Call e mX7_passHour [vR 392] M (fun r21 M19 => r21 = none ∧ Shp M19 ∧ (Run (e + 1) mX6_weighTold 10 [some (vR 387), some (vR 29), some (vR 41), some (vI (w32 (l3 + (1 : Int)))), some (vI l4)] [] M19 Q)))) ∧ (¬ ((iv M 29 0) ≤ l4) → (Call e mX7_weight [vR 392, vI l4] M (fun r26 M24 => ∃ z23 : Int, r26 = some (vL z23) ∧ Shp M24 ∧ (∀ N28 : jM, N28 = (ptl M24 72 401 (w32 ((w32 (l3 * (8 : Int))) + l4)) z23) → Shp N28 → (Run (e + 1) mX6_weighTold 69 [some (vR 387), some (vR 29), some (vR 41), some (vI l3), some (vI (w32 (l4 + (1 : Int))))] [] N28 Q)))))) :
  Run (e + 1) mX6_weighTold 69 [some (vR 387), some (vR 29), some (vR 41), some (vI l3), some (vI l4)] [] M Q := by
  refine r_iload dX6_weighTold_69 rfl ?_
  refine r_aload_n dX6_weighTold_71 rfl ?_
  refine r_get0 dX6_weighTold_72 kF6_66 (sh_o hS kk29 (by decide)) ?_
  refine r_icmp_ge dX6_weighTold_75 rfl (fun c17 => ?_) (fun c17 => ?_)
  · refine r_aload_n dX6_weighTold_107 rfl ?_
    refine r_getS (v := 392) dX6_weighTold_108 kF6_27 (sh_o hS kk387 (by decide)) (sh_f hS rr387_6 (by decide)) ?_
    refine r_invV_v dX6_weighTold_111 kM6_112 (by decide) (Nat.le_of_ble_eq_true rfl) rfl rfl (Nat.le_of_ble_eq_true rfl) (Nat.le_of_ble_eq_true rfl) (sh_o hS kk392 (by decide)) (Call.mono (h.1 c17) (Nat.le_refl _) ?_)
    rintro _ M19 ⟨rfl, s22, h20⟩
    refine ⟨rfl, ?_⟩
    refine r_iinc (ls2 := [some (vR 387), some (vR 29), some (vR 41), some (vI (w32 (l3 + (1 : Int)))), some (vI l4)]) dX6_weighTold_114 rfl rfl ?_
    refine r_goto (tgt := 10) dX6_weighTold_117 rfl ?_
    exact h20
  · refine r_aload_n dX6_weighTold_78 rfl ?_
    refine r_getS (v := 401) dX6_weighTold_79 kF6_34 (sh_o hS kk387 (by decide)) (sh_f hS rr387_8 (by decide)) ?_
    refine r_iload_n dX6_weighTold_82 rfl ?_
    refine r_bipush dX6_weighTold_83 (by decide) ?_
    refine r_imul dX6_weighTold_85 ?_
    refine r_iload dX6_weighTold_86 rfl ?_
    refine r_iadd dX6_weighTold_88 ?_
    refine r_aload_n dX6_weighTold_89 rfl ?_
    refine r_getS (v := 392) dX6_weighTold_90 kF6_27 (sh_o hS kk387 (by decide)) (sh_f hS rr387_6 (by decide)) ?_
    refine r_iload dX6_weighTold_93 rfl ?_
    refine r_invV_l dX6_weighTold_95 kM6_104 (by decide) (Nat.le_of_ble_eq_true rfl) rfl rfl (Nat.le_of_ble_eq_true rfl) (Nat.le_of_ble_eq_true rfl) (sh_o hS kk392 (by decide)) (Call.mono (h.2 c17) (Nat.le_refl _) ?_)
    rintro _ M24 ⟨z23, rfl, s27, h25⟩
    refine ⟨_, rfl, ?_⟩
    refine r_invS_v dX6_weighTold_98 (by decide) kXn6_108 kM6_108 (by decide) (Nat.le_of_ble_eq_true rfl) rfl rfl (Nat.le_of_ble_eq_true rfl) (Nat.le_of_ble_eq_true rfl) (c_putLong (by omega) (sh_r s27 kk401 (by decide)) (by decide) ⟨rfl, ?_⟩)
    have K31 : ∀ N28 : jM, N28 = (ptl M24 72 401 (w32 ((w32 (l3 * (8 : Int))) + l4)) z23) → Run (e + 1) mX6_weighTold 101 [some (vR 387), some (vR 29), some (vR 41), some (vI l3), some (vI l4)] [] N28 Q := by
      intro N28 hN30
      have sN29 : Shp N28 := by rw [hN30]; exact s27
      refine r_iinc (ls2 := [some (vR 387), some (vR 29), some (vR 41), some (vI l3), some (vI (w32 (l4 + (1 : Int))))]) dX6_weighTold_101 rfl rfl ?_
      refine r_goto (tgt := 69) dX6_weighTold_104 rfl ?_
      exact (h25 N28 hN30 sN29)
    exact K31 _ rfl
theorem vr_poss {e : Nat} {M : jM} {Q : Option jV → jM → Prop} {w : Int} {p : Int} {k : Int} (he : 4 ≤ e) (hS : Shp M)
  (h : Run (e + 1) mX6_weighPossible 3 [some (vR 387), some (vR 29), some (vI w), some (vI p), some (vI k), some (vI (1 : Int)), none, none, none] [] M Q) :
  Call (e + 1) mX6_weighPossible [vR 387, vR 29, vI w, vI p, vI k] M Q := by
  show Run (e + 1) mX6_weighPossible 0 [some (vR 387), some (vR 29), some (vI w), some (vI p), some (vI k), none, none, none, none] [] M Q
  refine r_iconst dX6_weighPossible_0 (by decide) ?_
  refine r_istore (ls2 := [some (vR 387), some (vR 29), some (vI w), some (vI p), some (vI k), some (vI (1 : Int)), none, none, none]) dX6_weighPossible_1 (Nat.le_of_ble_eq_true rfl) rfl ?_
  exact h
theorem vr_poss_3 {e : Nat} {M : jM} {Q : Option jV → jM → Prop} {w : Int} {p : Int} {k : Int} {l5 : Int} {l6 : Option jV} {l7 : Option jV} {l8 : Option jV}  (he : 4 ≤ e) (hS : Shp M)
  (h : (((9 : Int) < l5) → (Q none M)) ∧ (¬ ((9 : Int) < l5) → (Run (e + 1) mX6_weighPossible 16 [some (vR 387), some (vR 29), some (vI w), some (vI p), some (vI k), some (vI l5), some (vI (1 : Int)), some (vI (0 : Int)), l8] [] M Q))) :
  Run (e + 1) mX6_weighPossible 3 [some (vR 387), some (vR 29), some (vI w), some (vI p), some (vI k), some (vI l5), l6, l7, l8] [] M Q := by
  refine r_iload dX6_weighPossible_3 rfl ?_
  refine r_bipush dX6_weighPossible_5 (by decide) ?_
  refine r_icmp_gt dX6_weighPossible_7 rfl (fun c1 => ?_) (fun c1 => ?_)
  · exact r_vret dX6_weighPossible_95 rfl (h.1 c1)
  · refine r_iconst dX6_weighPossible_10 (by decide) ?_
    refine r_istore (ls2 := [some (vR 387), some (vR 29), some (vI w), some (vI p), some (vI k), some (vI l5), some (vI (1 : Int)), l7, l8]) dX6_weighPossible_11 (Nat.le_of_ble_eq_true rfl) rfl ?_
    refine r_iconst dX6_weighPossible_13 (by decide) ?_
    refine r_istore (ls2 := [some (vR 387), some (vR 29), some (vI w), some (vI p), some (vI k), some (vI l5), some (vI (1 : Int)), some (vI (0 : Int)), l8]) dX6_weighPossible_14 (Nat.le_of_ble_eq_true rfl) rfl ?_
    exact (h.2 c1)
theorem vr_poss_16 {e : Nat} {M : jM} {Q : Option jV → jM → Prop} {w : Int} {p : Int} {k : Int} {l5 : Int} {l6 : Int} {l7 : Int} {l8 : Option jV}  (he : 4 ≤ e) (hS : Shp M)
  (h : (((9 : Int) ≤ l7) → (Run (e + 1) mX6_weighPossible 3 [some (vR 387), some (vR 29), some (vI w), some (vI p), some (vI k), some (vI (w32 (l5 + (1 : Int)))), some (vI l6), some (vI l7), l8] [] M Q)) ∧ (¬ ((9 : Int) ≤ l7) → (Call e mX1_lookUp [vR 29, vI l7, vI w, vI l7] M (fun r6 M4 => r6 = none ∧ Shp M4 ∧ (((l6 = (0 : Int)) → (Call e mX6_moreIndex [vI p, vI k, vI l5, vI l7] M4 (fun r12 M10 => ∃ z9 : Int, r12 = some (vI z9) ∧ Shp M10 ∧ (∀ N14 : jM, N14 = (ptv M10 1944 402 z9 (0 : Int)) → Shp N14 → (Run (e + 1) mX6_weighPossible 16 [some (vR 387), some (vR 29), some (vI w), some (vI p), some (vI k), some (vI l5), some (vI (0 : Int)), some (vI (w32 (l7 + (1 : Int)))), some (vI (0 : Int))] [] N14 Q))))) ∧ (¬ (l6 = (0 : Int)) → (Call e mX1_massOf [vR 29, vI p, vI k, vI l5] M4 (fun r19 M17 => ∃ z16 : Int, r19 = some (vI z16) ∧ Shp M17 ∧ (Call e mX6_moreIndex [vI p, vI k, vI l5, vI l7] M17 (fun r24 M22 => ∃ z21 : Int, r24 = some (vI z21) ∧ Shp M22 ∧ (∀ N26 : jM, N26 = (ptv M22 1944 402 z21 z16) → Shp N26 → (Run (e + 1) mX6_weighPossible 16 [some (vR 387), some (vR 29), some (vI w), some (vI p), some (vI k), some (vI l5), some (vI (if z16 = (0 : Int) then (0 : Int) else (1 : Int))), some (vI (w32 (l7 + (1 : Int)))), some (vI z16)] [] N26 Q)))))))))))) :
  Run (e + 1) mX6_weighPossible 16 [some (vR 387), some (vR 29), some (vI w), some (vI p), some (vI k), some (vI l5), some (vI l6), some (vI l7), l8] [] M Q := by
  refine r_iload dX6_weighPossible_16 rfl ?_
  refine r_bipush dX6_weighPossible_18 (by decide) ?_
  refine r_icmp_ge dX6_weighPossible_20 rfl (fun c2 => ?_) (fun c2 => ?_)
  · refine r_iinc (ls2 := [some (vR 387), some (vR 29), some (vI w), some (vI p), some (vI k), some (vI (w32 (l5 + (1 : Int)))), some (vI l6), some (vI l7), l8]) dX6_weighPossible_89 rfl rfl ?_
    refine r_goto (tgt := 3) dX6_weighPossible_92 rfl ?_
    exact (h.1 c2)
  · refine r_aload_n dX6_weighPossible_23 rfl ?_
    refine r_iload dX6_weighPossible_24 rfl ?_
    refine r_iload_n dX6_weighPossible_26 rfl ?_
    refine r_iload dX6_weighPossible_27 rfl ?_
    refine r_invV_v dX6_weighPossible_29 kM6_115 (by decide) (Nat.le_of_ble_eq_true rfl) rfl rfl (Nat.le_of_ble_eq_true rfl) (Nat.le_of_ble_eq_true rfl) (sh_o hS kk29 (by decide)) (Call.mono (h.2 c2) (Nat.le_refl _) ?_)
    rintro _ M4 ⟨rfl, s7, h5⟩
    refine ⟨rfl, ?_⟩
    refine r_iload dX6_weighPossible_32 rfl ?_
    refine r_if_eq dX6_weighPossible_34 rfl (fun c8 => ?_) (fun c8 => ?_)
    · refine r_iconst dX6_weighPossible_49 (by decide) ?_
      refine r_istore (ls2 := [some (vR 387), some (vR 29), some (vI w), some (vI p), some (vI k), some (vI l5), some (vI l6), some (vI l7), some (vI (0 : Int))]) dX6_weighPossible_50 (Nat.le_of_ble_eq_true rfl) rfl ?_
      refine r_iload dX6_weighPossible_52 rfl ?_
      refine r_if_eq dX6_weighPossible_54 rfl (fun _ => ?_) (fun q => absurd (by decide) q)
      refine r_iconst dX6_weighPossible_61 (by decide) ?_
      refine r_istore (ls2 := [some (vR 387), some (vR 29), some (vI w), some (vI p), some (vI k), some (vI l5), some (vI (0 : Int)), some (vI l7), some (vI (0 : Int))]) dX6_weighPossible_62 (Nat.le_of_ble_eq_true rfl) rfl ?_
      refine r_aload_n dX6_weighPossible_64 rfl ?_
      refine r_getS (v := 402) dX6_weighPossible_65 kF6_38 (sh_o s7 kk387 (by decide)) (sh_f s7 rr387_9 (by decide)) ?_
      refine r_iload_n dX6_weighPossible_68 rfl ?_
      refine r_iload dX6_weighPossible_69 rfl ?_
      refine r_iload dX6_weighPossible_71 rfl ?_
      refine r_iload dX6_weighPossible_73 rfl ?_
      refine r_invS_i dX6_weighPossible_75 (by decide) kXn6_123 kM6_123 (by decide) (Nat.le_of_ble_eq_true rfl) rfl rfl (Nat.le_of_ble_eq_true rfl) (Nat.le_of_ble_eq_true rfl) (Call.mono (h5.1 c8) (Nat.le_refl _) ?_)
      rintro _ M10 ⟨z9, rfl, s13, h11⟩
      refine ⟨_, rfl, ?_⟩
      refine r_iload dX6_weighPossible_78 rfl ?_
      refine r_invS_v dX6_weighPossible_80 (by decide) kXn6_55 kM6_55 (by decide) (Nat.le_of_ble_eq_true rfl) rfl rfl (Nat.le_of_ble_eq_true rfl) (Nat.le_of_ble_eq_true rfl) (c_put (by omega) (sh_r s13 kk402 (by decide)) (by decide) ⟨rfl, ?_⟩)
      have K29 : ∀ N14 : jM, N14 = (ptv M10 1944 402 z9 (0 : Int)) → Run (e + 1) mX6_weighPossible 83 [some (vR 387), some (vR 29), some (vI w), some (vI p), some (vI k), some (vI l5), some (vI (0 : Int)), some (vI l7), some (vI (0 : Int))] [] N14 Q := by
        intro N14 hN28
        have sN15 : Shp N14 := by rw [hN28]; exact s13
        refine r_iinc (ls2 := [some (vR 387), some (vR 29), some (vI w), some (vI p), some (vI k), some (vI l5), some (vI (0 : Int)), some (vI (w32 (l7 + (1 : Int)))), some (vI (0 : Int))]) dX6_weighPossible_83 rfl rfl ?_
        refine r_goto (tgt := 16) dX6_weighPossible_86 rfl ?_
        exact (h11 N14 hN28 sN15)
      exact K29 _ rfl
    · refine r_aload_n dX6_weighPossible_37 rfl ?_
      refine r_iload_n dX6_weighPossible_38 rfl ?_
      refine r_iload dX6_weighPossible_39 rfl ?_
      refine r_iload dX6_weighPossible_41 rfl ?_
      refine r_invV_i dX6_weighPossible_43 kM6_119 (by decide) (Nat.le_of_ble_eq_true rfl) rfl rfl (Nat.le_of_ble_eq_true rfl) (Nat.le_of_ble_eq_true rfl) (sh_o s7 kk29 (by decide)) (Call.mono (h5.2 c8) (Nat.le_refl _) ?_)
      rintro _ M17 ⟨z16, rfl, s20, h18⟩
      refine ⟨_, rfl, ?_⟩
      refine r_goto (tgt := 50) dX6_weighPossible_46 rfl ?_
      refine r_istore (ls2 := [some (vR 387), some (vR 29), some (vI w), some (vI p), some (vI k), some (vI l5), some (vI l6), some (vI l7), some (vI z16)]) dX6_weighPossible_50 (Nat.le_of_ble_eq_true rfl) rfl ?_
      refine r_iload dX6_weighPossible_52 rfl ?_
      have K30 : Run (e + 1) mX6_weighPossible 62 [some (vR 387), some (vR 29), some (vI w), some (vI p), some (vI k), some (vI l5), some (vI l6), some (vI l7), some (vI z16)] [vI (if z16 = (0 : Int) then (0 : Int) else (1 : Int))] M17 Q := by
        refine r_istore (ls2 := [some (vR 387), some (vR 29), some (vI w), some (vI p), some (vI k), some (vI l5), some (vI (if z16 = (0 : Int) then (0 : Int) else (1 : Int))), some (vI l7), some (vI z16)]) dX6_weighPossible_62 (Nat.le_of_ble_eq_true rfl) rfl ?_
        refine r_aload_n dX6_weighPossible_64 rfl ?_
        refine r_getS (v := 402) dX6_weighPossible_65 kF6_38 (sh_o s20 kk387 (by decide)) (sh_f s20 rr387_9 (by decide)) ?_
        refine r_iload_n dX6_weighPossible_68 rfl ?_
        refine r_iload dX6_weighPossible_69 rfl ?_
        refine r_iload dX6_weighPossible_71 rfl ?_
        refine r_iload dX6_weighPossible_73 rfl ?_
        refine r_invS_i dX6_weighPossible_75 (by decide) kXn6_123 kM6_123 (by decide) (Nat.le_of_ble_eq_true rfl) rfl rfl (Nat.le_of_ble_eq_true rfl) (Nat.le_of_ble_eq_true rfl) (Call.mono h18 (Nat.le_refl _) ?_)
        rintro _ M22 ⟨z21, rfl, s25, h23⟩
        refine ⟨_, rfl, ?_⟩
        refine r_iload dX6_weighPossible_78 rfl ?_
        refine r_invS_v dX6_weighPossible_80 (by decide) kXn6_55 kM6_55 (by decide) (Nat.le_of_ble_eq_true rfl) rfl rfl (Nat.le_of_ble_eq_true rfl) (Nat.le_of_ble_eq_true rfl) (c_put (by omega) (sh_r s25 kk402 (by decide)) (by decide) ⟨rfl, ?_⟩)
        have K32 : ∀ N26 : jM, N26 = (ptv M22 1944 402 z21 z16) → Run (e + 1) mX6_weighPossible 83 [some (vR 387), some (vR 29), some (vI w), some (vI p), some (vI k), some (vI l5), some (vI (if z16 = (0 : Int) then (0 : Int) else (1 : Int))), some (vI l7), some (vI z16)] [] N26 Q := by
          intro N26 hN31
          have sN27 : Shp N26 := by rw [hN31]; exact s25
          refine r_iinc (ls2 := [some (vR 387), some (vR 29), some (vI w), some (vI p), some (vI k), some (vI l5), some (vI (if z16 = (0 : Int) then (0 : Int) else (1 : Int))), some (vI (w32 (l7 + (1 : Int)))), some (vI z16)]) dX6_weighPossible_83 rfl rfl ?_
          refine r_goto (tgt := 16) dX6_weighPossible_86 rfl ?_
          exact (h23 N26 hN31 sN27)
        exact K32 _ rfl
      refine r_if_eq dX6_weighPossible_54 rfl (fun q33 => ?_) (fun q33 => ?_)
      · rw [if_pos q33] at K30
        refine r_iconst dX6_weighPossible_61 (by decide) ?_
        exact K30
      · rw [if_neg q33] at K30
        refine r_iconst dX6_weighPossible_57 (by decide) ?_
        refine r_goto (tgt := 62) dX6_weighPossible_58 rfl ?_
        exact K30
theorem vr_ix {e : Nat} {M : jM} {Q : Option jV → jM → Prop} {p : Int} {k : Int} {t : Int} {n : Int} (he : 4 ≤ e) (hS : Shp M)
  (h : ∀ v1 : Int, v1 = (w32 ((w32 ((w32 ((w32 ((w32 (p * (3 : Int))) + k)) * (9 : Int))) + t)) - (1 : Int))) → (Q (some (vI (w32 ((w32 (v1 * (9 : Int))) + n)))) M)) :
  Call (e + 1) mX6_moreIndex [vI p, vI k, vI t, vI n] M Q := by
  show Run (e + 1) mX6_moreIndex 0 [some (vI p), some (vI k), some (vI t), some (vI n)] [] M Q
  refine r_iload_n dX6_moreIndex_0 rfl ?_
  refine r_iconst dX6_moreIndex_1 (by decide) ?_
  refine r_imul dX6_moreIndex_2 ?_
  refine r_iload_n dX6_moreIndex_3 rfl ?_
  refine r_iadd dX6_moreIndex_4 ?_
  refine r_bipush dX6_moreIndex_5 (by decide) ?_
  refine r_imul dX6_moreIndex_7 ?_
  refine r_iload_n dX6_moreIndex_8 rfl ?_
  refine r_iadd dX6_moreIndex_9 ?_
  refine r_iconst dX6_moreIndex_10 (by decide) ?_
  refine r_isub dX6_moreIndex_11 ?_
  have K3 : ∀ v1 : Int, v1 = (w32 ((w32 ((w32 ((w32 ((w32 (p * (3 : Int))) + k)) * (9 : Int))) + t)) - (1 : Int))) → Run (e + 1) mX6_moreIndex 12 [some (vI p), some (vI k), some (vI t), some (vI n)] [vI v1] M Q := by
    intro v1 hv2
    refine r_bipush dX6_moreIndex_12 (by decide) ?_
    refine r_imul dX6_moreIndex_14 ?_
    refine r_iload_n dX6_moreIndex_15 rfl ?_
    refine r_iadd dX6_moreIndex_16 ?_
    exact r_iret dX6_moreIndex_17 rfl (h v1 hv2)
  exact K3 _ rfl
theorem vr_collect {e : Nat} {M : jM} {Q : Option jV → jM → Prop} {p : Int} {q : Int} (he : 4 ≤ e) (hS : Shp M)
  (h : Run (e + 1) mX6_collect 3 [some (vR 387), some (vR 29), some (vR 41), some (vI p), some (vI q), some (vI (0 : Int)), none, none] [] M Q) :
  Call (e + 1) mX6_collect [vR 387, vR 29, vR 41, vI p, vI q] M Q := by
  show Run (e + 1) mX6_collect 0 [some (vR 387), some (vR 29), some (vR 41), some (vI p), some (vI q), none, none, none] [] M Q
  refine r_iconst dX6_collect_0 (by decide) ?_
  refine r_istore (ls2 := [some (vR 387), some (vR 29), some (vR 41), some (vI p), some (vI q), some (vI (0 : Int)), none, none]) dX6_collect_1 (Nat.le_of_ble_eq_true rfl) rfl ?_
  exact h
theorem vr_collect_3 {e : Nat} {M : jM} {Q : Option jV → jM → Prop} {p : Int} {q : Int} {l5 : Int} {l6 : Option jV} {l7 : Option jV}  (he : 4 ≤ e) (hS : Shp M)
  (h : (((3 : Int) ≤ l5) → (Q none M)) ∧ (¬ ((3 : Int) ≤ l5) → (Run (e + 1) mX6_collect 12 [some (vR 387), some (vR 29), some (vR 41), some (vI p), some (vI q), some (vI l5), some (vI (1 : Int)), l7] [] M Q))) :
  Run (e + 1) mX6_collect 3 [some (vR 387), some (vR 29), some (vR 41), some (vI p), some (vI q), some (vI l5), l6, l7] [] M Q := by
  refine r_iload dX6_collect_3 rfl ?_
  refine r_iconst dX6_collect_5 (by decide) ?_
  refine r_icmp_ge dX6_collect_6 rfl (fun c1 => ?_) (fun c1 => ?_)
  · exact r_vret dX6_collect_96 rfl (h.1 c1)
  · refine r_iconst dX6_collect_9 (by decide) ?_
    refine r_istore (ls2 := [some (vR 387), some (vR 29), some (vR 41), some (vI p), some (vI q), some (vI l5), some (vI (1 : Int)), l7]) dX6_collect_10 (Nat.le_of_ble_eq_true rfl) rfl ?_
    exact (h.2 c1)
theorem vr_collect_12 {e : Nat} {M : jM} {Q : Option jV → jM → Prop} {p : Int} {q : Int} {l5 : Int} {l6 : Int} {l7 : Option jV}  (he : 4 ≤ e) (hS : Shp M)
  (h : (((9 : Int) < l6) → (Run (e + 1) mX6_collect 3 [some (vR 387), some (vR 29), some (vR 41), some (vI p), some (vI q), some (vI (w32 (l5 + (1 : Int)))), some (vI l6), l7] [] M Q)) ∧ (¬ ((9 : Int) < l6) → ((((fG (atv M 8 31 p) l5) = (0 : Int)) → (Run (e + 1) mX6_collect 3 [some (vR 387), some (vR 29), some (vR 41), some (vI p), some (vI q), some (vI (w32 (l5 + (1 : Int)))), some (vI l6), l7] [] M Q)) ∧ (¬ ((fG (atv M 8 31 p) l5) = (0 : Int)) → (∀ v4 : Int, v4 = (w32 ((w32 ((w32 ((1000 : Int) * p)) + (w32 ((100 : Int) * q)))) + (w32 ((10 : Int) * l5)))) → (Call e mX6_isAsSeen [vR 387, vR 41, vI (w32 (v4 + l6))] M (fun r8 M6 => ∃ z5 : Int, r8 = some (vI z5) ∧ Shp M6 ∧ (((z5 = (0 : Int)) → (Run (e + 1) mX6_collect 12 [some (vR 387), some (vR 29), some (vR 41), some (vI p), some (vI q), some (vI l5), some (vI (w32 (l6 + (1 : Int)))), some (vI (w32 (v4 + l6)))] [] M6 Q)) ∧ (¬ (z5 = (0 : Int)) → (∀ N11 : jM, N11 = (ptv M6 1512 403 (iv M6 387 11) (w32 (v4 + l6))) → Shp N11 → (∀ N13 : jM, N13 = (si N11 387 11 (w32 ((iv N11 387 11) + (1 : Int)))) → Shp N13 → (Run (e + 1) mX6_collect 12 [some (vR 387), some (vR 29), some (vR 41), some (vI p), some (vI q), some (vI l5), some (vI (w32 (l6 + (1 : Int)))), some (vI (w32 (v4 + l6)))] [] N13 Q)))))))))))) :
  Run (e + 1) mX6_collect 12 [some (vR 387), some (vR 29), some (vR 41), some (vI p), some (vI q), some (vI l5), some (vI l6), l7] [] M Q := by
  refine r_iload dX6_collect_12 rfl ?_
  refine r_bipush dX6_collect_14 (by decide) ?_
  refine r_icmp_gt dX6_collect_16 rfl (fun c2 => ?_) (fun c2 => ?_)
  · refine r_iinc (ls2 := [some (vR 387), some (vR 29), some (vR 41), some (vI p), some (vI q), some (vI (w32 (l5 + (1 : Int)))), some (vI l6), l7]) dX6_collect_90 rfl rfl ?_
    refine r_goto (tgt := 3) dX6_collect_93 rfl ?_
    exact (h.1 c2)
  · refine r_aload_n dX6_collect_19 rfl ?_
    refine r_iload_n dX6_collect_20 rfl ?_
    refine r_iload dX6_collect_21 rfl ?_
    refine r_invV_i dX6_collect_23 kM6_75 (by decide) (Nat.le_of_ble_eq_true rfl) rfl rfl (Nat.le_of_ble_eq_true rfl) (Nat.le_of_ble_eq_true rfl) (sh_o hS kk29 (by decide)) (c_takes (by omega) hS ⟨_, rfl, ?_⟩)
    refine r_if_eq dX6_collect_26 rfl (fun c3 => ?_) (fun c3 => ?_)
    · refine r_iinc (ls2 := [some (vR 387), some (vR 29), some (vR 41), some (vI p), some (vI q), some (vI (w32 (l5 + (1 : Int)))), some (vI l6), l7]) dX6_collect_90 rfl rfl ?_
      refine r_goto (tgt := 3) dX6_collect_93 rfl ?_
      exact ((h.2 c2).1 c3)
    · refine r_sipush dX6_collect_29 (by decide) ?_
      refine r_iload_n dX6_collect_32 rfl ?_
      refine r_imul dX6_collect_33 ?_
      refine r_bipush dX6_collect_34 (by decide) ?_
      refine r_iload dX6_collect_36 rfl ?_
      refine r_imul dX6_collect_38 ?_
      refine r_iadd dX6_collect_39 ?_
      refine r_bipush dX6_collect_40 (by decide) ?_
      refine r_iload dX6_collect_42 rfl ?_
      refine r_imul dX6_collect_44 ?_
      refine r_iadd dX6_collect_45 ?_
      have K16 : ∀ v4 : Int, v4 = (w32 ((w32 ((w32 ((1000 : Int) * p)) + (w32 ((100 : Int) * q)))) + (w32 ((10 : Int) * l5)))) → Run (e + 1) mX6_collect 46 [some (vR 387), some (vR 29), some (vR 41), some (vI p), some (vI q), some (vI l5), some (vI l6), l7] [vI v4] M Q := by
        intro v4 hv15
        refine r_iload dX6_collect_46 rfl ?_
        refine r_iadd dX6_collect_48 ?_
        refine r_istore (ls2 := [some (vR 387), some (vR 29), some (vR 41), some (vI p), some (vI q), some (vI l5), some (vI l6), some (vI (w32 (v4 + l6)))]) dX6_collect_49 (Nat.le_of_ble_eq_true rfl) rfl ?_
        refine r_aload_n dX6_collect_51 rfl ?_
        refine r_aload_n dX6_collect_52 rfl ?_
        refine r_iload dX6_collect_53 rfl ?_
        refine r_invV_i dX6_collect_55 kM6_127 (by decide) (Nat.le_of_ble_eq_true rfl) rfl rfl (Nat.le_of_ble_eq_true rfl) (Nat.le_of_ble_eq_true rfl) (sh_o hS kk387 (by decide)) (Call.mono (((h.2 c2).2 c3) v4 hv15) (Nat.le_refl _) ?_)
        rintro _ M6 ⟨z5, rfl, s9, h7⟩
        refine ⟨_, rfl, ?_⟩
        refine r_if_eq dX6_collect_58 rfl (fun c10 => ?_) (fun c10 => ?_)
        · refine r_iinc (ls2 := [some (vR 387), some (vR 29), some (vR 41), some (vI p), some (vI q), some (vI l5), some (vI (w32 (l6 + (1 : Int)))), some (vI (w32 (v4 + l6)))]) dX6_collect_84 rfl rfl ?_
          refine r_goto (tgt := 12) dX6_collect_87 rfl ?_
          exact (h7.1 c10)
        · refine r_aload_n dX6_collect_61 rfl ?_
          refine r_getS (v := 403) dX6_collect_62 kF6_41 (sh_o s9 kk387 (by decide)) (sh_f s9 rr387_10 (by decide)) ?_
          refine r_aload_n dX6_collect_65 rfl ?_
          refine r_get0 dX6_collect_66 kF6_63 (sh_o s9 kk387 (by decide)) ?_
          refine r_iload dX6_collect_69 rfl ?_
          refine r_invS_v dX6_collect_71 (by decide) kXn6_55 kM6_55 (by decide) (Nat.le_of_ble_eq_true rfl) rfl rfl (Nat.le_of_ble_eq_true rfl) (Nat.le_of_ble_eq_true rfl) (c_put (by omega) (sh_r s9 kk403 (by decide)) (by decide) ⟨rfl, ?_⟩)
          have K18 : ∀ N11 : jM, N11 = (ptv M6 1512 403 (iv M6 387 11) (w32 (v4 + l6))) → Run (e + 1) mX6_collect 74 [some (vR 387), some (vR 29), some (vR 41), some (vI p), some (vI q), some (vI l5), some (vI l6), some (vI (w32 (v4 + l6)))] [] N11 Q := by
            intro N11 hN17
            have sN12 : Shp N11 := by rw [hN17]; exact s9
            refine r_aload_n dX6_collect_74 rfl ?_
            refine r_dupR dX6_collect_75 ?_
            refine r_get0 dX6_collect_76 kF6_63 (sh_o sN12 kk387 (by decide)) ?_
            refine r_iconst dX6_collect_79 (by decide) ?_
            refine r_iadd dX6_collect_80 ?_
            refine r_put0 dX6_collect_81 kF6_63 (sh_o sN12 kk387 (by decide)) (Or.inl rfl) ?_
            have K20 : ∀ N13 : jM, N13 = (si N11 387 11 (w32 ((iv N11 387 11) + (1 : Int)))) → Run (e + 1) mX6_collect 84 [some (vR 387), some (vR 29), some (vR 41), some (vI p), some (vI q), some (vI l5), some (vI l6), some (vI (w32 (v4 + l6)))] [] N13 Q := by
              intro N13 hN19
              have sN14 : Shp N13 := by rw [hN19]; exact sN12
              refine r_iinc (ls2 := [some (vR 387), some (vR 29), some (vR 41), some (vI p), some (vI q), some (vI l5), some (vI (w32 (l6 + (1 : Int)))), some (vI (w32 (v4 + l6)))]) dX6_collect_84 rfl rfl ?_
              refine r_goto (tgt := 12) dX6_collect_87 rfl ?_
              exact (((h7.2 c10) N11 hN17 sN12) N13 hN19 sN14)
            exact K20 _ rfl
          exact K18 _ rfl
      exact K16 _ rfl
theorem vr_seen {e : Nat} {M : jM} {Q : Option jV → jM → Prop} {cd : Int} (he : 4 ≤ e) (hS : Shp M)
  (h : Run (e + 1) mX6_isAsSeen 2 [some (vR 387), some (vR 41), some (vI cd), some (vI (0 : Int)), none, none, none] [] M Q) :
  Call (e + 1) mX6_isAsSeen [vR 387, vR 41, vI cd] M Q := by
  show Run (e + 1) mX6_isAsSeen 0 [some (vR 387), some (vR 41), some (vI cd), none, none, none, none] [] M Q
  refine r_iconst dX6_isAsSeen_0 (by decide) ?_
  refine r_istore_n (ls2 := [some (vR 387), some (vR 41), some (vI cd), some (vI (0 : Int)), none, none, none]) dX6_isAsSeen_1 (Nat.le_of_ble_eq_true rfl) rfl ?_
  exact h
theorem vr_seen_2 {e : Nat} {M : jM} {Q : Option jV → jM → Prop} {cd : Int} {l3 : Int} {l4 : Option jV} {l5 : Option jV} {l6 : Option jV}  (he : 4 ≤ e) (hS : Shp M)
  (h : (((iv M 387 4) ≤ l3) → (Q (some (vI (1 : Int))) M)) ∧ (¬ ((iv M 387 4) ≤ l3) → (Call e mX6_weightWith [vR 387, vR 41, vI cd, vI (atv M 10 388 l3), vI (atv M 10 389 l3)] M (fun r5 M3 => ∃ z2 : Int, r5 = some (vL z2) ∧ Shp M3 ∧ ((((if (jcmp z2 (w64 ((1000 : Int) * (atv M3 10 390 l3)))) < (0 : Int) then (0 : Int) else (1 : Int)) = (if (atv M3 10 391 l3) ≠ (1 : Int) then (0 : Int) else (1 : Int))) → (Run (e + 1) mX6_isAsSeen 2 [some (vR 387), some (vR 41), some (vI cd), some (vI (w32 (l3 + (1 : Int)))), some (vL z2), none, some (vI (if (jcmp z2 (w64 ((1000 : Int) * (atv M3 10 390 l3)))) < (0 : Int) then (0 : Int) else (1 : Int)))] [] M3 Q)) ∧ (¬ ((if (jcmp z2 (w64 ((1000 : Int) * (atv M3 10 390 l3)))) < (0 : Int) then (0 : Int) else (1 : Int)) = (if (atv M3 10 391 l3) ≠ (1 : Int) then (0 : Int) else (1 : Int))) → (Q (some (vI (0 : Int))) M3))))))) :
  Run (e + 1) mX6_isAsSeen 2 [some (vR 387), some (vR 41), some (vI cd), some (vI l3), l4, l5, l6] [] M Q := by
  refine r_iload_n dX6_isAsSeen_2 rfl ?_
  refine r_aload_n dX6_isAsSeen_3 rfl ?_
  refine r_get0 dX6_isAsSeen_4 kF6_47 (sh_o hS kk387 (by decide)) ?_
  refine r_icmp_ge dX6_isAsSeen_7 rfl (fun c1 => ?_) (fun c1 => ?_)
  · refine r_iconst dX6_isAsSeen_90 (by decide) ?_
    exact r_zret dX6_isAsSeen_91 rfl (by decide) (h.1 c1)
  · refine r_aload_n dX6_isAsSeen_10 rfl ?_
    refine r_aload_n dX6_isAsSeen_11 rfl ?_
    refine r_iload_n dX6_isAsSeen_12 rfl ?_
    refine r_aload_n dX6_isAsSeen_13 rfl ?_
    refine r_getS (v := 388) dX6_isAsSeen_14 kF6_11 (sh_o hS kk387 (by decide)) (sh_f hS rr387_0 (by decide)) ?_
    refine r_iload_n dX6_isAsSeen_17 rfl ?_
    refine r_invS_i dX6_isAsSeen_18 (by decide) kXn6_100 kM6_100 (by decide) (Nat.le_of_ble_eq_true rfl) rfl rfl (Nat.le_of_ble_eq_true rfl) (Nat.le_of_ble_eq_true rfl) (c_at (by omega) (sh_r hS kk388 (by decide)) ⟨_, rfl, ?_⟩)
    refine r_aload_n dX6_isAsSeen_21 rfl ?_
    refine r_getS (v := 389) dX6_isAsSeen_22 kF6_15 (sh_o hS kk387 (by decide)) (sh_f hS rr387_1 (by decide)) ?_
    refine r_iload_n dX6_isAsSeen_25 rfl ?_
    refine r_invS_i dX6_isAsSeen_26 (by decide) kXn6_100 kM6_100 (by decide) (Nat.le_of_ble_eq_true rfl) rfl rfl (Nat.le_of_ble_eq_true rfl) (Nat.le_of_ble_eq_true rfl) (c_at (by omega) (sh_r hS kk389 (by decide)) ⟨_, rfl, ?_⟩)
    refine r_invV_l dX6_isAsSeen_29 kM6_131 (by decide) (Nat.le_of_ble_eq_true rfl) rfl rfl (Nat.le_of_ble_eq_true rfl) (Nat.le_of_ble_eq_true rfl) (sh_o hS kk387 (by decide)) (Call.mono (h.2 c1) (Nat.le_refl _) ?_)
    rintro _ M3 ⟨z2, rfl, s6, h4⟩
    refine ⟨_, rfl, ?_⟩
    refine r_lstore (ls2 := [some (vR 387), some (vR 41), some (vI cd), some (vI l3), some (vL z2), none, l6]) dX6_isAsSeen_32 (Nat.le_of_ble_eq_true rfl) rfl ?_
    refine r_lload dX6_isAsSeen_34 rfl ?_
    refine r_ldc2 dX6_isAsSeen_36 kL6_135 ?_
    refine r_aload_n dX6_isAsSeen_39 rfl ?_
    refine r_getS (v := 390) dX6_isAsSeen_40 kF6_18 (sh_o s6 kk387 (by decide)) (sh_f s6 rr387_2 (by decide)) ?_
    refine r_iload_n dX6_isAsSeen_43 rfl ?_
    refine r_invS_i dX6_isAsSeen_44 (by decide) kXn6_100 kM6_100 (by decide) (Nat.le_of_ble_eq_true rfl) rfl rfl (Nat.le_of_ble_eq_true rfl) (Nat.le_of_ble_eq_true rfl) (c_at (by omega) (sh_r s6 kk390 (by decide)) ⟨_, rfl, ?_⟩)
    refine r_i2l dX6_isAsSeen_47 ?_
    refine r_lmul dX6_isAsSeen_48 ?_
    refine r_lcmp dX6_isAsSeen_49 ?_
    have K8 : Run (e + 1) mX6_isAsSeen 58 [some (vR 387), some (vR 41), some (vI cd), some (vI l3), some (vL z2), none, l6] [vI (if (jcmp z2 (w64 ((1000 : Int) * (atv M3 10 390 l3)))) < (0 : Int) then (0 : Int) else (1 : Int))] M3 Q := by
      refine r_istore (ls2 := [some (vR 387), some (vR 41), some (vI cd), some (vI l3), some (vL z2), none, some (vI (if (jcmp z2 (w64 ((1000 : Int) * (atv M3 10 390 l3)))) < (0 : Int) then (0 : Int) else (1 : Int)))]) dX6_isAsSeen_58 (Nat.le_of_ble_eq_true rfl) rfl ?_
      refine r_iload dX6_isAsSeen_60 rfl ?_
      refine r_aload_n dX6_isAsSeen_62 rfl ?_
      refine r_getS (v := 391) dX6_isAsSeen_63 kF6_21 (sh_o s6 kk387 (by decide)) (sh_f s6 rr387_3 (by decide)) ?_
      refine r_iload_n dX6_isAsSeen_66 rfl ?_
      refine r_invS_i dX6_isAsSeen_67 (by decide) kXn6_100 kM6_100 (by decide) (Nat.le_of_ble_eq_true rfl) rfl rfl (Nat.le_of_ble_eq_true rfl) (Nat.le_of_ble_eq_true rfl) (c_at (by omega) (sh_r s6 kk391 (by decide)) ⟨_, rfl, ?_⟩)
      refine r_iconst dX6_isAsSeen_70 (by decide) ?_
      have K9 : Run (e + 1) mX6_isAsSeen 79 [some (vR 387), some (vR 41), some (vI cd), some (vI l3), some (vL z2), none, some (vI (if (jcmp z2 (w64 ((1000 : Int) * (atv M3 10 390 l3)))) < (0 : Int) then (0 : Int) else (1 : Int)))] [vI (if (atv M3 10 391 l3) ≠ (1 : Int) then (0 : Int) else (1 : Int)), vI (if (jcmp z2 (w64 ((1000 : Int) * (atv M3 10 390 l3)))) < (0 : Int) then (0 : Int) else (1 : Int))] M3 Q := by
        refine r_icmp_eq dX6_isAsSeen_79 rfl (fun c7 => ?_) (fun c7 => ?_)
        · refine r_iinc (ls2 := [some (vR 387), some (vR 41), some (vI cd), some (vI (w32 (l3 + (1 : Int)))), some (vL z2), none, some (vI (if (jcmp z2 (w64 ((1000 : Int) * (atv M3 10 390 l3)))) < (0 : Int) then (0 : Int) else (1 : Int)))]) dX6_isAsSeen_84 rfl rfl ?_
          refine r_goto (tgt := 2) dX6_isAsSeen_87 rfl ?_
          exact (h4.1 c7)
        · refine r_iconst dX6_isAsSeen_82 (by decide) ?_
          exact r_zret dX6_isAsSeen_83 rfl (by decide) (h4.2 c7)
      refine r_icmp_ne dX6_isAsSeen_71 rfl (fun q10 => ?_) (fun q10 => ?_)
      · rw [if_pos q10] at K9
        refine r_iconst dX6_isAsSeen_78 (by decide) ?_
        exact K9
      · rw [if_neg q10] at K9
        refine r_iconst dX6_isAsSeen_74 (by decide) ?_
        refine r_goto (tgt := 79) dX6_isAsSeen_75 rfl ?_
        exact K9
    refine r_if_lt dX6_isAsSeen_50 rfl (fun q12 => ?_) (fun q12 => ?_)
    · rw [if_pos q12] at K8
      refine r_iconst dX6_isAsSeen_57 (by decide) ?_
      exact K8
    · rw [if_neg q12] at K8
      refine r_iconst dX6_isAsSeen_53 (by decide) ?_
      refine r_goto (tgt := 58) dX6_isAsSeen_54 rfl ?_
      exact K8
theorem vr_with {e : Nat} {M : jM} {Q : Option jV → jM → Prop} {cd : Int} {p : Int} {n : Int} (he : 4 ≤ e) (hS : Shp M)
  (h : Call e mX6_whomOf [vI cd] M (fun r4 M2 => ∃ z1 : Int, r4 = some (vI z1) ∧ Shp M2 ∧ (((z1 = p) → (Call e mX6_moreIndex [vI (jdiv cd (1000 : Int)), vI (jrem (jdiv cd (10 : Int)) (10 : Int)), vI (jrem cd (10 : Int)), vI n] M2 (fun r10 M8 => ∃ z7 : Int, r10 = some (vI z7) ∧ Shp M8 ∧ (Call e mX7_emptyPlace [vR 41, vI (jdiv cd (1000 : Int))] M8 (fun r15 M13 => ∃ z12 : Int, r15 = some (vI z12) ∧ Shp M13 ∧ (Run (e + 1) mX6_weightWith 88 [some (vR 387), some (vR 41), some (vI cd), some (vI p), some (vI n), some (vI (jdiv cd (1000 : Int))), some (vI (atv M8 1944 402 z7)), some (vI (w32 ((w32 ((jdiv cd (1000 : Int)) * (4 : Int))) + z12))), some (vL (w64 ((1000 : Int) * (atv M13 8 47 p)))), none, some (vI (0 : Int))] [] M13 Q)))))) ∧ (¬ (z1 = p) → (Q (some (vL (atl M2 72 401 (w32 ((w32 (n * (8 : Int))) + p))))) M2))))) :
  Call (e + 1) mX6_weightWith [vR 387, vR 41, vI cd, vI p, vI n] M Q := by
  show Run (e + 1) mX6_weightWith 0 [some (vR 387), some (vR 41), some (vI cd), some (vI p), some (vI n), none, none, none, none, none, none] [] M Q
  refine r_iload_n dX6_weightWith_0 rfl ?_
  refine r_invS_i dX6_weightWith_1 (by decide) kXn6_137 kM6_137 (by decide) (Nat.le_of_ble_eq_true rfl) rfl rfl (Nat.le_of_ble_eq_true rfl) (Nat.le_of_ble_eq_true rfl) (Call.mono h (Nat.le_refl _) ?_)
  rintro _ M2 ⟨z1, rfl, s5, h3⟩
  refine ⟨_, rfl, ?_⟩
  refine r_iload_n dX6_weightWith_4 rfl ?_
  refine r_icmp_eq dX6_weightWith_5 rfl (fun c6 => ?_) (fun c6 => ?_)
  · refine r_iload_n dX6_weightWith_23 rfl ?_
    refine r_sipush dX6_weightWith_24 (by decide) ?_
    refine r_idiv dX6_weightWith_27 (by decide) ?_
    refine r_istore (ls2 := [some (vR 387), some (vR 41), some (vI cd), some (vI p), some (vI n), some (vI (jdiv cd (1000 : Int))), none, none, none, none, none]) dX6_weightWith_28 (Nat.le_of_ble_eq_true rfl) rfl ?_
    refine r_aload_n dX6_weightWith_30 rfl ?_
    refine r_getS (v := 402) dX6_weightWith_31 kF6_38 (sh_o s5 kk387 (by decide)) (sh_f s5 rr387_9 (by decide)) ?_
    refine r_iload dX6_weightWith_34 rfl ?_
    refine r_iload_n dX6_weightWith_36 rfl ?_
    refine r_bipush dX6_weightWith_37 (by decide) ?_
    refine r_idiv dX6_weightWith_39 (by decide) ?_
    refine r_bipush dX6_weightWith_40 (by decide) ?_
    refine r_irem dX6_weightWith_42 (by decide) ?_
    refine r_iload_n dX6_weightWith_43 rfl ?_
    refine r_bipush dX6_weightWith_44 (by decide) ?_
    refine r_irem dX6_weightWith_46 (by decide) ?_
    refine r_iload dX6_weightWith_47 rfl ?_
    refine r_invS_i dX6_weightWith_49 (by decide) kXn6_123 kM6_123 (by decide) (Nat.le_of_ble_eq_true rfl) rfl rfl (Nat.le_of_ble_eq_true rfl) (Nat.le_of_ble_eq_true rfl) (Call.mono (h3.1 c6) (Nat.le_refl _) ?_)
    rintro _ M8 ⟨z7, rfl, s11, h9⟩
    refine ⟨_, rfl, ?_⟩
    refine r_invS_i dX6_weightWith_52 (by decide) kXn6_100 kM6_100 (by decide) (Nat.le_of_ble_eq_true rfl) rfl rfl (Nat.le_of_ble_eq_true rfl) (Nat.le_of_ble_eq_true rfl) (c_at (by omega) (sh_r s11 kk402 (by decide)) ⟨_, rfl, ?_⟩)
    refine r_istore (ls2 := [some (vR 387), some (vR 41), some (vI cd), some (vI p), some (vI n), some (vI (jdiv cd (1000 : Int))), some (vI (atv M8 1944 402 z7)), none, none, none, none]) dX6_weightWith_55 (Nat.le_of_ble_eq_true rfl) rfl ?_
    refine r_iload dX6_weightWith_57 rfl ?_
    refine r_iconst dX6_weightWith_59 (by decide) ?_
    refine r_imul dX6_weightWith_60 ?_
    refine r_aload_n dX6_weightWith_61 rfl ?_
    refine r_iload dX6_weightWith_62 rfl ?_
    refine r_invV_i dX6_weightWith_64 kM6_71 (by decide) (Nat.le_of_ble_eq_true rfl) rfl rfl (Nat.le_of_ble_eq_true rfl) (Nat.le_of_ble_eq_true rfl) (sh_o s11 kk41 (by decide)) (Call.mono h9 (Nat.le_refl _) ?_)
    rintro _ M13 ⟨z12, rfl, s16, h14⟩
    refine ⟨_, rfl, ?_⟩
    refine r_iadd dX6_weightWith_67 ?_
    refine r_istore (ls2 := [some (vR 387), some (vR 41), some (vI cd), some (vI p), some (vI n), some (vI (jdiv cd (1000 : Int))), some (vI (atv M8 1944 402 z7)), some (vI (w32 ((w32 ((jdiv cd (1000 : Int)) * (4 : Int))) + z12))), none, none, none]) dX6_weightWith_68 (Nat.le_of_ble_eq_true rfl) rfl ?_
    refine r_ldc2 dX6_weightWith_70 kL6_135 ?_
    refine r_aload_n dX6_weightWith_73 rfl ?_
    refine r_getS (v := 47) dX6_weightWith_74 kF6_144 (sh_o s16 kk41 (by decide)) (st_f5 s16 (by decide)) ?_
    refine r_iload_n dX6_weightWith_77 rfl ?_
    refine r_invS_i dX6_weightWith_78 (by decide) kXn6_100 kM6_100 (by decide) (Nat.le_of_ble_eq_true rfl) rfl rfl (Nat.le_of_ble_eq_true rfl) (Nat.le_of_ble_eq_true rfl) (c_at (by omega) (sh_r s16 kk47 (by decide)) ⟨_, rfl, ?_⟩)
    refine r_i2l dX6_weightWith_81 ?_
    refine r_lmul dX6_weightWith_82 ?_
    refine r_lstore (ls2 := [some (vR 387), some (vR 41), some (vI cd), some (vI p), some (vI n), some (vI (jdiv cd (1000 : Int))), some (vI (atv M8 1944 402 z7)), some (vI (w32 ((w32 ((jdiv cd (1000 : Int)) * (4 : Int))) + z12))), some (vL (w64 ((1000 : Int) * (atv M13 8 47 p)))), none, none]) dX6_weightWith_83 (Nat.le_of_ble_eq_true rfl) rfl ?_
    refine r_iconst dX6_weightWith_85 (by decide) ?_
    refine r_istore (ls2 := [some (vR 387), some (vR 41), some (vI cd), some (vI p), some (vI n), some (vI (jdiv cd (1000 : Int))), some (vI (atv M8 1944 402 z7)), some (vI (w32 ((w32 ((jdiv cd (1000 : Int)) * (4 : Int))) + z12))), some (vL (w64 ((1000 : Int) * (atv M13 8 47 p)))), none, some (vI (0 : Int))]) dX6_weightWith_86 (Nat.le_of_ble_eq_true rfl) rfl ?_
    exact h14
  · refine r_aload_n dX6_weightWith_8 rfl ?_
    refine r_getS (v := 401) dX6_weightWith_9 kF6_34 (sh_o s5 kk387 (by decide)) (sh_f s5 rr387_8 (by decide)) ?_
    refine r_iload dX6_weightWith_12 rfl ?_
    refine r_bipush dX6_weightWith_14 (by decide) ?_
    refine r_imul dX6_weightWith_16 ?_
    refine r_iload_n dX6_weightWith_17 rfl ?_
    refine r_iadd dX6_weightWith_18 ?_
    refine r_invS_l dX6_weightWith_19 (by decide) kXn6_140 kM6_140 (by decide) (Nat.le_of_ble_eq_true rfl) rfl rfl (Nat.le_of_ble_eq_true rfl) (Nat.le_of_ble_eq_true rfl) (c_longAt (by omega) (sh_r s5 kk401 (by decide)) ⟨_, rfl, ?_⟩)
    exact r_lret dX6_weightWith_22 rfl (h3.2 c6)
theorem vr_with_88 {e : Nat} {M : jM} {Q : Option jV → jM → Prop} {cd : Int} {p : Int} {n : Int} {l5 : Int} {l6 : Int} {l7 : Int} {l8 : Int} {l10 : Int}  (he : 4 ≤ e) (hS : Shp M)
  (h : (((32 : Int) ≤ l10) → (Q (some (vL l8)) M)) ∧ (¬ ((32 : Int) ≤ l10) → (((l10 ≠ l7) → ((((atv M 32 42 l10) ≠ p) → (Run (e + 1) mX6_weightWith 88 [some (vR 387), some (vR 41), some (vI cd), some (vI p), some (vI n), some (vI l5), some (vI l6), some (vI l7), some (vL l8), none, some (vI (w32 (l10 + (1 : Int))))] [] M Q)) ∧ (¬ ((atv M 32 42 l10) ≠ p) → ((0 ≤ (w64 (l8 + (atv M 288 400 (w32 ((w32 (n * (32 : Int))) + l10))))) ∧ (w64 (l8 + (atv M 288 400 (w32 ((w32 (n * (32 : Int))) + l10))))) < 4611686018427387904) ∧ (∀ v21 : Int, v21 = ((rnd (w64 (l8 + (atv M 288 400 (w32 ((w32 (n * (32 : Int))) + l10))))))) → (Run (e + 1) mX6_weightWith 88 [some (vR 387), some (vR 41), some (vI cd), some (vI p), some (vI n), some (vI l5), some (vI l6), some (vI l7), some (vL v21), none, some (vI (w32 (l10 + (1 : Int))))] [] M Q)))))) ∧ (¬ (l10 ≠ l7) → ((0 ≤ (w64 (l8 + l6)) ∧ (w64 (l8 + l6)) < 4611686018427387904) ∧ (Run (e + 1) mX6_weightWith 88 [some (vR 387), some (vR 41), some (vI cd), some (vI p), some (vI n), some (vI l5), some (vI l6), some (vI l7), some (vL (rnd (w64 (l8 + l6)))), none, some (vI (w32 (l10 + (1 : Int))))] [] M Q)))))) :
  Run (e + 1) mX6_weightWith 88 [some (vR 387), some (vR 41), some (vI cd), some (vI p), some (vI n), some (vI l5), some (vI l6), some (vI l7), some (vL l8), none, some (vI l10)] [] M Q := by
  refine r_iload dX6_weightWith_88 rfl ?_
  refine r_bipush dX6_weightWith_90 (by decide) ?_
  refine r_icmp_ge dX6_weightWith_92 rfl (fun c17 => ?_) (fun c17 => ?_)
  · refine r_lload dX6_weightWith_159 rfl ?_
    exact r_lret dX6_weightWith_161 rfl (h.1 c17)
  · refine r_iload dX6_weightWith_95 rfl ?_
    refine r_iload dX6_weightWith_97 rfl ?_
    refine r_icmp_ne dX6_weightWith_99 rfl (fun c18 => ?_) (fun c18 => ?_)
    · refine r_aload_n dX6_weightWith_116 rfl ?_
      refine r_getS (v := 42) dX6_weightWith_117 kF6_151 (sh_o hS kk41 (by decide)) (st_f0 hS (by decide)) ?_
      refine r_iload dX6_weightWith_120 rfl ?_
      refine r_invS_i dX6_weightWith_122 (by decide) kXn6_100 kM6_100 (by decide) (Nat.le_of_ble_eq_true rfl) rfl rfl (Nat.le_of_ble_eq_true rfl) (Nat.le_of_ble_eq_true rfl) (c_at (by omega) (sh_r hS kk42 (by decide)) ⟨_, rfl, ?_⟩)
      refine r_iload_n dX6_weightWith_125 rfl ?_
      refine r_icmp_ne dX6_weightWith_126 rfl (fun c19 => ?_) (fun c19 => ?_)
      · refine r_iinc (ls2 := [some (vR 387), some (vR 41), some (vI cd), some (vI p), some (vI n), some (vI l5), some (vI l6), some (vI l7), some (vL l8), none, some (vI (w32 (l10 + (1 : Int))))]) dX6_weightWith_153 rfl rfl ?_
        refine r_goto (tgt := 88) dX6_weightWith_156 rfl ?_
        exact (((h.2 c17).1 c18).1 c19)
      · refine r_lload dX6_weightWith_129 rfl ?_
        refine r_aload_n dX6_weightWith_131 rfl ?_
        refine r_getS (v := 400) dX6_weightWith_132 kF6_31 (sh_o hS kk387 (by decide)) (sh_f hS rr387_7 (by decide)) ?_
        refine r_iload dX6_weightWith_135 rfl ?_
        refine r_bipush dX6_weightWith_137 (by decide) ?_
        refine r_imul dX6_weightWith_139 ?_
        refine r_iload dX6_weightWith_140 rfl ?_
        refine r_iadd dX6_weightWith_142 ?_
        refine r_invS_i dX6_weightWith_143 (by decide) kXn6_100 kM6_100 (by decide) (Nat.le_of_ble_eq_true rfl) rfl rfl (Nat.le_of_ble_eq_true rfl) (Nat.le_of_ble_eq_true rfl) (c_at (by omega) (sh_r hS kk400 (by decide)) ⟨_, rfl, ?_⟩)
        refine r_i2l dX6_weightWith_146 ?_
        refine r_ladd dX6_weightWith_147 ?_
        have ob20 := (((h.2 c17).1 c18).2 c19).1
        refine r_invS_l dX6_weightWith_148 (by decide) kXn6_147 kM6_147 (by decide) (Nat.le_of_ble_eq_true rfl) rfl rfl (Nat.le_of_ble_eq_true rfl) (Nat.le_of_ble_eq_true rfl) (c_rounded (by omega) ob20 ⟨_, rfl, ?_⟩)
        have K24 : ∀ v21 : Int, v21 = ((rnd (w64 (l8 + (atv M 288 400 (w32 ((w32 (n * (32 : Int))) + l10))))))) → Run (e + 1) mX6_weightWith 151 [some (vR 387), some (vR 41), some (vI cd), some (vI p), some (vI n), some (vI l5), some (vI l6), some (vI l7), some (vL l8), none, some (vI l10)] [vL v21] M Q := by
          intro v21 hv23
          refine r_lstore (ls2 := [some (vR 387), some (vR 41), some (vI cd), some (vI p), some (vI n), some (vI l5), some (vI l6), some (vI l7), some (vL v21), none, some (vI l10)]) dX6_weightWith_151 (Nat.le_of_ble_eq_true rfl) rfl ?_
          refine r_iinc (ls2 := [some (vR 387), some (vR 41), some (vI cd), some (vI p), some (vI n), some (vI l5), some (vI l6), some (vI l7), some (vL v21), none, some (vI (w32 (l10 + (1 : Int))))]) dX6_weightWith_153 rfl rfl ?_
          refine r_goto (tgt := 88) dX6_weightWith_156 rfl ?_
          exact ((((h.2 c17).1 c18).2 c19).2 v21 hv23)
        exact K24 _ rfl
    · refine r_lload dX6_weightWith_102 rfl ?_
      refine r_iload dX6_weightWith_104 rfl ?_
      refine r_i2l dX6_weightWith_106 ?_
      refine r_ladd dX6_weightWith_107 ?_
      have ob22 := ((h.2 c17).2 c18).1
      refine r_invS_l dX6_weightWith_108 (by decide) kXn6_147 kM6_147 (by decide) (Nat.le_of_ble_eq_true rfl) rfl rfl (Nat.le_of_ble_eq_true rfl) (Nat.le_of_ble_eq_true rfl) (c_rounded (by omega) ob22 ⟨_, rfl, ?_⟩)
      refine r_lstore (ls2 := [some (vR 387), some (vR 41), some (vI cd), some (vI p), some (vI n), some (vI l5), some (vI l6), some (vI l7), some (vL (rnd (w64 (l8 + l6)))), none, some (vI l10)]) dX6_weightWith_111 (Nat.le_of_ble_eq_true rfl) rfl ?_
      refine r_goto (tgt := 153) dX6_weightWith_113 rfl ?_
      refine r_iinc (ls2 := [some (vR 387), some (vR 41), some (vI cd), some (vI p), some (vI n), some (vI l5), some (vI l6), some (vI l7), some (vL (rnd (w64 (l8 + l6)))), none, some (vI (w32 (l10 + (1 : Int))))]) dX6_weightWith_153 rfl rfl ?_
      refine r_goto (tgt := 88) dX6_weightWith_156 rfl ?_
      exact ((h.2 c17).2 c18).2
theorem vr_best {e : Nat} {M : jM} {Q : Option jV → jM → Prop} {p : Int} (he : 4 ≤ e) (hS : Shp M)
  (h : Run (e + 1) mX6_bestHoursToAsk 8 [some (vR 387), some (vR 41), some (vI p), some (vI (-1 : Int)), some (vI (0 : Int)), some (vI (0 : Int)), none] [] M Q) :
  Call (e + 1) mX6_bestHoursToAsk [vR 387, vR 41, vI p] M Q := by
  show Run (e + 1) mX6_bestHoursToAsk 0 [some (vR 387), some (vR 41), some (vI p), none, none, none, none] [] M Q
  refine r_iconst dX6_bestHoursToAsk_0 (by decide) ?_
  refine r_istore_n (ls2 := [some (vR 387), some (vR 41), some (vI p), some (vI (-1 : Int)), none, none, none]) dX6_bestHoursToAsk_1 (Nat.le_of_ble_eq_true rfl) rfl ?_
  refine r_iconst dX6_bestHoursToAsk_2 (by decide) ?_
  refine r_istore (ls2 := [some (vR 387), some (vR 41), some (vI p), some (vI (-1 : Int)), some (vI (0 : Int)), none, none]) dX6_bestHoursToAsk_3 (Nat.le_of_ble_eq_true rfl) rfl ?_
  refine r_iconst dX6_bestHoursToAsk_5 (by decide) ?_
  refine r_istore (ls2 := [some (vR 387), some (vR 41), some (vI p), some (vI (-1 : Int)), some (vI (0 : Int)), some (vI (0 : Int)), none]) dX6_bestHoursToAsk_6 (Nat.le_of_ble_eq_true rfl) rfl ?_
  exact h
theorem vr_best_8 {e : Nat} {M : jM} {Q : Option jV → jM → Prop} {p : Int} {l3 : Int} {l4 : Int} {l5 : Int} {l6 : Option jV}  (he : 4 ≤ e) (hS : Shp M)
  (h : (((9 : Int) ≤ l5) → (Q (some (vI l3)) M)) ∧ (¬ ((9 : Int) ≤ l5) → (Call e mX6_mostAlike [vR 387, vR 41, vI p, vI l5] M (fun r5 M3 => ∃ z2 : Int, r5 = some (vI z2) ∧ Shp M3 ∧ (((l3 = (-1 : Int)) → (Run (e + 1) mX6_bestHoursToAsk 8 [some (vR 387), some (vR 41), some (vI p), some (vI l5), some (vI z2), some (vI (w32 (l5 + (1 : Int)))), some (vI z2)] [] M3 Q)) ∧ (¬ (l3 = (-1 : Int)) → (((l4 ≤ z2) → (Run (e + 1) mX6_bestHoursToAsk 8 [some (vR 387), some (vR 41), some (vI p), some (vI l3), some (vI l4), some (vI (w32 (l5 + (1 : Int)))), some (vI z2)] [] M3 Q)) ∧ (¬ (l4 ≤ z2) → (Run (e + 1) mX6_bestHoursToAsk 8 [some (vR 387), some (vR 41), some (vI p), some (vI l5), some (vI z2), some (vI (w32 (l5 + (1 : Int)))), some (vI z2)] [] M3 Q))))))))) :
  Run (e + 1) mX6_bestHoursToAsk 8 [some (vR 387), some (vR 41), some (vI p), some (vI l3), some (vI l4), some (vI l5), l6] [] M Q := by
  refine r_iload dX6_bestHoursToAsk_8 rfl ?_
  refine r_bipush dX6_bestHoursToAsk_10 (by decide) ?_
  refine r_icmp_ge dX6_bestHoursToAsk_12 rfl (fun c1 => ?_) (fun c1 => ?_)
  · refine r_iload_n dX6_bestHoursToAsk_50 rfl ?_
    exact r_iret dX6_bestHoursToAsk_51 rfl (h.1 c1)
  · refine r_aload_n dX6_bestHoursToAsk_15 rfl ?_
    refine r_aload_n dX6_bestHoursToAsk_16 rfl ?_
    refine r_iload_n dX6_bestHoursToAsk_17 rfl ?_
    refine r_iload dX6_bestHoursToAsk_18 rfl ?_
    refine r_invV_i dX6_bestHoursToAsk_20 kM6_154 (by decide) (Nat.le_of_ble_eq_true rfl) rfl rfl (Nat.le_of_ble_eq_true rfl) (Nat.le_of_ble_eq_true rfl) (sh_o hS kk387 (by decide)) (Call.mono (h.2 c1) (Nat.le_refl _) ?_)
    rintro _ M3 ⟨z2, rfl, s6, h4⟩
    refine ⟨_, rfl, ?_⟩
    refine r_istore (ls2 := [some (vR 387), some (vR 41), some (vI p), some (vI l3), some (vI l4), some (vI l5), some (vI z2)]) dX6_bestHoursToAsk_23 (Nat.le_of_ble_eq_true rfl) rfl ?_
    refine r_iload_n dX6_bestHoursToAsk_25 rfl ?_
    refine r_iconst dX6_bestHoursToAsk_26 (by decide) ?_
    refine r_icmp_eq dX6_bestHoursToAsk_27 rfl (fun c7 => ?_) (fun c7 => ?_)
    · refine r_iload dX6_bestHoursToAsk_37 rfl ?_
      refine r_istore_n (ls2 := [some (vR 387), some (vR 41), some (vI p), some (vI l5), some (vI l4), some (vI l5), some (vI z2)]) dX6_bestHoursToAsk_39 (Nat.le_of_ble_eq_true rfl) rfl ?_
      refine r_iload dX6_bestHoursToAsk_40 rfl ?_
      refine r_istore (ls2 := [some (vR 387), some (vR 41), some (vI p), some (vI l5), some (vI z2), some (vI l5), some (vI z2)]) dX6_bestHoursToAsk_42 (Nat.le_of_ble_eq_true rfl) rfl ?_
      refine r_iinc (ls2 := [some (vR 387), some (vR 41), some (vI p), some (vI l5), some (vI z2), some (vI (w32 (l5 + (1 : Int)))), some (vI z2)]) dX6_bestHoursToAsk_44 rfl rfl ?_
      refine r_goto (tgt := 8) dX6_bestHoursToAsk_47 rfl ?_
      exact (h4.1 c7)
    · refine r_iload dX6_bestHoursToAsk_30 rfl ?_
      refine r_iload dX6_bestHoursToAsk_32 rfl ?_
      refine r_icmp_ge dX6_bestHoursToAsk_34 rfl (fun c8 => ?_) (fun c8 => ?_)
      · refine r_iinc (ls2 := [some (vR 387), some (vR 41), some (vI p), some (vI l3), some (vI l4), some (vI (w32 (l5 + (1 : Int)))), some (vI z2)]) dX6_bestHoursToAsk_44 rfl rfl ?_
        refine r_goto (tgt := 8) dX6_bestHoursToAsk_47 rfl ?_
        exact ((h4.2 c7).1 c8)
      · refine r_iload dX6_bestHoursToAsk_37 rfl ?_
        refine r_istore_n (ls2 := [some (vR 387), some (vR 41), some (vI p), some (vI l5), some (vI l4), some (vI l5), some (vI z2)]) dX6_bestHoursToAsk_39 (Nat.le_of_ble_eq_true rfl) rfl ?_
        refine r_iload dX6_bestHoursToAsk_40 rfl ?_
        refine r_istore (ls2 := [some (vR 387), some (vR 41), some (vI p), some (vI l5), some (vI z2), some (vI l5), some (vI z2)]) dX6_bestHoursToAsk_42 (Nat.le_of_ble_eq_true rfl) rfl ?_
        refine r_iinc (ls2 := [some (vR 387), some (vR 41), some (vI p), some (vI l5), some (vI z2), some (vI (w32 (l5 + (1 : Int)))), some (vI z2)]) dX6_bestHoursToAsk_44 rfl rfl ?_
        refine r_goto (tgt := 8) dX6_bestHoursToAsk_47 rfl ?_
        exact ((h4.2 c7).2 c8)
theorem vr_alike {e : Nat} {M : jM} {Q : Option jV → jM → Prop} {p : Int} {n : Int} (he : 4 ≤ e) (hS : Shp M)
  (h : Run (e + 1) mX6_mostAlike 3 [some (vR 387), some (vR 41), some (vI p), some (vI n), some (vI (0 : Int)), none, none, none] [] M Q) :
  Call (e + 1) mX6_mostAlike [vR 387, vR 41, vI p, vI n] M Q := by
  show Run (e + 1) mX6_mostAlike 0 [some (vR 387), some (vR 41), some (vI p), some (vI n), none, none, none, none] [] M Q
  refine r_iconst dX6_mostAlike_0 (by decide) ?_
  refine r_istore (ls2 := [some (vR 387), some (vR 41), some (vI p), some (vI n), some (vI (0 : Int)), none, none, none]) dX6_mostAlike_1 (Nat.le_of_ble_eq_true rfl) rfl ?_
  exact h
theorem vr_alike_3 {e : Nat} {M : jM} {Q : Option jV → jM → Prop} {p : Int} {n : Int} {l4 : Int} {l5 : Option jV} {l6 : Option jV} {l7 : Option jV}  (he : 4 ≤ e) (hS : Shp M)
  (h : (((64 : Int) ≤ l4) → (Run (e + 1) mX6_mostAlike 32 [some (vR 387), some (vR 41), some (vI p), some (vI n), some (vI (0 : Int)), some (vI (0 : Int)), l6, l7] [] M Q)) ∧ (¬ ((64 : Int) ≤ l4) → (∀ N2 : jM, N2 = (ptv M 64 404 l4 (0 : Int)) → Shp N2 → (Run (e + 1) mX6_mostAlike 3 [some (vR 387), some (vR 41), some (vI p), some (vI n), some (vI (w32 (l4 + (1 : Int)))), l5, l6, l7] [] N2 Q)))) :
  Run (e + 1) mX6_mostAlike 3 [some (vR 387), some (vR 41), some (vI p), some (vI n), some (vI l4), l5, l6, l7] [] M Q := by
  refine r_iload dX6_mostAlike_3 rfl ?_
  refine r_bipush dX6_mostAlike_5 (by decide) ?_
  refine r_icmp_ge dX6_mostAlike_7 rfl (fun c1 => ?_) (fun c1 => ?_)
  · refine r_iconst dX6_mostAlike_26 (by decide) ?_
    refine r_istore (ls2 := [some (vR 387), some (vR 41), some (vI p), some (vI n), some (vI (0 : Int)), l5, l6, l7]) dX6_mostAlike_27 (Nat.le_of_ble_eq_true rfl) rfl ?_
    refine r_iconst dX6_mostAlike_29 (by decide) ?_
    refine r_istore (ls2 := [some (vR 387), some (vR 41), some (vI p), some (vI n), some (vI (0 : Int)), some (vI (0 : Int)), l6, l7]) dX6_mostAlike_30 (Nat.le_of_ble_eq_true rfl) rfl ?_
    exact (h.1 c1)
  · refine r_aload_n dX6_mostAlike_10 rfl ?_
    refine r_getS (v := 404) dX6_mostAlike_11 kF6_44 (sh_o hS kk387 (by decide)) (sh_f hS rr387_12 (by decide)) ?_
    refine r_iload dX6_mostAlike_14 rfl ?_
    refine r_iconst dX6_mostAlike_16 (by decide) ?_
    refine r_invS_v dX6_mostAlike_17 (by decide) kXn6_55 kM6_55 (by decide) (Nat.le_of_ble_eq_true rfl) rfl rfl (Nat.le_of_ble_eq_true rfl) (Nat.le_of_ble_eq_true rfl) (c_put (by omega) (sh_r hS kk404 (by decide)) (by decide) ⟨rfl, ?_⟩)
    have K5 : ∀ N2 : jM, N2 = (ptv M 64 404 l4 (0 : Int)) → Run (e + 1) mX6_mostAlike 20 [some (vR 387), some (vR 41), some (vI p), some (vI n), some (vI l4), l5, l6, l7] [] N2 Q := by
      intro N2 hN4
      have sN3 : Shp N2 := by rw [hN4]; exact hS
      refine r_iinc (ls2 := [some (vR 387), some (vR 41), some (vI p), some (vI n), some (vI (w32 (l4 + (1 : Int)))), l5, l6, l7]) dX6_mostAlike_20 rfl rfl ?_
      refine r_goto (tgt := 3) dX6_mostAlike_23 rfl ?_
      exact ((h.2 c1) N2 hN4 sN3)
    exact K5 _ rfl
theorem vr_alike_32 {e : Nat} {M : jM} {Q : Option jV → jM → Prop} {p : Int} {n : Int} {l4 : Int} {l5 : Int} {l6 : Option jV} {l7 : Option jV}  (he : 4 ≤ e) (hS : Shp M)
  (h : (((iv M 387 11) ≤ l5) → ((0 < (atl M 72 401 (w32 ((w32 (n * (8 : Int))) + p))) ∧ (atl M 72 401 (w32 ((w32 (n * (8 : Int))) + p))) < 4611686018427387904) ∧ (∀ v8 : Int, v8 = (w32 ((atv M 64 404 (hft (atl M 72 401 (w32 ((w32 (n * (8 : Int))) + p))))) + l4)) → (∀ N9 : jM, N9 = (ptv M 64 404 (hft (atl M 72 401 (w32 ((w32 (n * (8 : Int))) + p)))) v8) → Shp N9 → (Run (e + 1) mX6_mostAlike 152 [some (vR 387), some (vR 41), some (vI p), some (vI n), some (vI l4), some (vI (hft (atl M 72 401 (w32 ((w32 (n * (8 : Int))) + p))))), some (vI (0 : Int)), some (vI (0 : Int))] [] N9 Q))))) ∧ (¬ ((iv M 387 11) ≤ l5) → (Call e mX6_whomOf [vI (atv M 1512 403 l5)] M (fun r14 M12 => ∃ z11 : Int, r14 = some (vI z11) ∧ Shp M12 ∧ (((z11 ≠ p) → (Run (e + 1) mX6_mostAlike 32 [some (vR 387), some (vR 41), some (vI p), some (vI n), some (vI (w32 (l4 + (1 : Int)))), some (vI (w32 (l5 + (1 : Int)))), some (vI (atv M 1512 403 l5)), l7] [] M12 Q)) ∧ (¬ (z11 ≠ p) → (Call e mX6_weightWith [vR 387, vR 41, vI (atv M 1512 403 l5), vI p, vI n] M12 (fun r20 M18 => ∃ z17 : Int, r20 = some (vL z17) ∧ Shp M18 ∧ ((0 < z17 ∧ z17 < 4611686018427387904) ∧ (∀ N23 : jM, N23 = (ptv M18 64 404 (hft z17) (w32 ((atv M18 64 404 (hft z17)) + (1 : Int)))) → Shp N23 → (Run (e + 1) mX6_mostAlike 32 [some (vR 387), some (vR 41), some (vI p), some (vI n), some (vI l4), some (vI (w32 (l5 + (1 : Int)))), some (vI (atv M 1512 403 l5)), some (vI (hft z17))] [] N23 Q))))))))))) :
  Run (e + 1) mX6_mostAlike 32 [some (vR 387), some (vR 41), some (vI p), some (vI n), some (vI l4), some (vI l5), l6, l7] [] M Q := by
  refine r_iload dX6_mostAlike_32 rfl ?_
  refine r_aload_n dX6_mostAlike_34 rfl ?_
  refine r_get0 dX6_mostAlike_35 kF6_63 (sh_o hS kk387 (by decide)) ?_
  refine r_icmp_ge dX6_mostAlike_38 rfl (fun c6 => ?_) (fun c6 => ?_)
  · refine r_aload_n dX6_mostAlike_107 rfl ?_
    refine r_getS (v := 401) dX6_mostAlike_108 kF6_34 (sh_o hS kk387 (by decide)) (sh_f hS rr387_8 (by decide)) ?_
    refine r_iload_n dX6_mostAlike_111 rfl ?_
    refine r_bipush dX6_mostAlike_112 (by decide) ?_
    refine r_imul dX6_mostAlike_114 ?_
    refine r_iload_n dX6_mostAlike_115 rfl ?_
    refine r_iadd dX6_mostAlike_116 ?_
    refine r_invS_l dX6_mostAlike_117 (by decide) kXn6_140 kM6_140 (by decide) (Nat.le_of_ble_eq_true rfl) rfl rfl (Nat.le_of_ble_eq_true rfl) (Nat.le_of_ble_eq_true rfl) (c_longAt (by omega) (sh_r hS kk401 (by decide)) ⟨_, rfl, ?_⟩)
    have ob7 := (h.1 c6).1
    refine r_invS_i dX6_mostAlike_120 (by decide) kXn6_158 kM6_158 (by decide) (Nat.le_of_ble_eq_true rfl) rfl rfl (Nat.le_of_ble_eq_true rfl) (Nat.le_of_ble_eq_true rfl) (c_heftOf (by omega) ob7 ⟨_, rfl, ?_⟩)
    refine r_istore (ls2 := [some (vR 387), some (vR 41), some (vI p), some (vI n), some (vI l4), some (vI (hft (atl M 72 401 (w32 ((w32 (n * (8 : Int))) + p))))), l6, l7]) dX6_mostAlike_123 (Nat.le_of_ble_eq_true rfl) rfl ?_
    refine r_aload_n dX6_mostAlike_125 rfl ?_
    refine r_getS (v := 404) dX6_mostAlike_126 kF6_44 (sh_o hS kk387 (by decide)) (sh_f hS rr387_12 (by decide)) ?_
    refine r_iload dX6_mostAlike_129 rfl ?_
    refine r_aload_n dX6_mostAlike_131 rfl ?_
    refine r_getS (v := 404) dX6_mostAlike_132 kF6_44 (sh_o hS kk387 (by decide)) (sh_f hS rr387_12 (by decide)) ?_
    refine r_iload dX6_mostAlike_135 rfl ?_
    refine r_invS_i dX6_mostAlike_137 (by decide) kXn6_100 kM6_100 (by decide) (Nat.le_of_ble_eq_true rfl) rfl rfl (Nat.le_of_ble_eq_true rfl) (Nat.le_of_ble_eq_true rfl) (c_at (by omega) (sh_r hS kk404 (by decide)) ⟨_, rfl, ?_⟩)
    refine r_iload dX6_mostAlike_140 rfl ?_
    refine r_iadd dX6_mostAlike_142 ?_
    have K26 : ∀ v8 : Int, v8 = (w32 ((atv M 64 404 (hft (atl M 72 401 (w32 ((w32 (n * (8 : Int))) + p))))) + l4)) → Run (e + 1) mX6_mostAlike 143 [some (vR 387), some (vR 41), some (vI p), some (vI n), some (vI l4), some (vI (hft (atl M 72 401 (w32 ((w32 (n * (8 : Int))) + p))))), l6, l7] [vI v8, vI (hft (atl M 72 401 (w32 ((w32 (n * (8 : Int))) + p)))), vR 404] M Q := by
      intro v8 hv25
      refine r_invS_v dX6_mostAlike_143 (by decide) kXn6_55 kM6_55 (by decide) (Nat.le_of_ble_eq_true rfl) rfl rfl (Nat.le_of_ble_eq_true rfl) (Nat.le_of_ble_eq_true rfl) (c_put (by omega) (sh_r hS kk404 (by decide)) (by decide) ⟨rfl, ?_⟩)
      have K28 : ∀ N9 : jM, N9 = (ptv M 64 404 (hft (atl M 72 401 (w32 ((w32 (n * (8 : Int))) + p)))) v8) → Run (e + 1) mX6_mostAlike 146 [some (vR 387), some (vR 41), some (vI p), some (vI n), some (vI l4), some (vI (hft (atl M 72 401 (w32 ((w32 (n * (8 : Int))) + p))))), l6, l7] [] N9 Q := by
        intro N9 hN27
        have sN10 : Shp N9 := by rw [hN27]; exact hS
        refine r_iconst dX6_mostAlike_146 (by decide) ?_
        refine r_istore (ls2 := [some (vR 387), some (vR 41), some (vI p), some (vI n), some (vI l4), some (vI (hft (atl M 72 401 (w32 ((w32 (n * (8 : Int))) + p))))), some (vI (0 : Int)), l7]) dX6_mostAlike_147 (Nat.le_of_ble_eq_true rfl) rfl ?_
        refine r_iconst dX6_mostAlike_149 (by decide) ?_
        refine r_istore (ls2 := [some (vR 387), some (vR 41), some (vI p), some (vI n), some (vI l4), some (vI (hft (atl M 72 401 (w32 ((w32 (n * (8 : Int))) + p))))), some (vI (0 : Int)), some (vI (0 : Int))]) dX6_mostAlike_150 (Nat.le_of_ble_eq_true rfl) rfl ?_
        exact (((h.1 c6).2 v8 hv25) N9 hN27 sN10)
      exact K28 _ rfl
    exact K26 _ rfl
  · refine r_aload_n dX6_mostAlike_41 rfl ?_
    refine r_getS (v := 403) dX6_mostAlike_42 kF6_41 (sh_o hS kk387 (by decide)) (sh_f hS rr387_10 (by decide)) ?_
    refine r_iload dX6_mostAlike_45 rfl ?_
    refine r_invS_i dX6_mostAlike_47 (by decide) kXn6_100 kM6_100 (by decide) (Nat.le_of_ble_eq_true rfl) rfl rfl (Nat.le_of_ble_eq_true rfl) (Nat.le_of_ble_eq_true rfl) (c_at (by omega) (sh_r hS kk403 (by decide)) ⟨_, rfl, ?_⟩)
    refine r_istore (ls2 := [some (vR 387), some (vR 41), some (vI p), some (vI n), some (vI l4), some (vI l5), some (vI (atv M 1512 403 l5)), l7]) dX6_mostAlike_50 (Nat.le_of_ble_eq_true rfl) rfl ?_
    refine r_iload dX6_mostAlike_52 rfl ?_
    refine r_invS_i dX6_mostAlike_54 (by decide) kXn6_137 kM6_137 (by decide) (Nat.le_of_ble_eq_true rfl) rfl rfl (Nat.le_of_ble_eq_true rfl) (Nat.le_of_ble_eq_true rfl) (Call.mono (h.2 c6) (Nat.le_refl _) ?_)
    rintro _ M12 ⟨z11, rfl, s15, h13⟩
    refine ⟨_, rfl, ?_⟩
    refine r_iload_n dX6_mostAlike_57 rfl ?_
    refine r_icmp_ne dX6_mostAlike_58 rfl (fun c16 => ?_) (fun c16 => ?_)
    · refine r_iinc (ls2 := [some (vR 387), some (vR 41), some (vI p), some (vI n), some (vI (w32 (l4 + (1 : Int)))), some (vI l5), some (vI (atv M 1512 403 l5)), l7]) dX6_mostAlike_98 rfl rfl ?_
      refine r_iinc (ls2 := [some (vR 387), some (vR 41), some (vI p), some (vI n), some (vI (w32 (l4 + (1 : Int)))), some (vI (w32 (l5 + (1 : Int)))), some (vI (atv M 1512 403 l5)), l7]) dX6_mostAlike_101 rfl rfl ?_
      refine r_goto (tgt := 32) dX6_mostAlike_104 rfl ?_
      exact (h13.1 c16)
    · refine r_aload_n dX6_mostAlike_61 rfl ?_
      refine r_aload_n dX6_mostAlike_62 rfl ?_
      refine r_iload dX6_mostAlike_63 rfl ?_
      refine r_iload_n dX6_mostAlike_65 rfl ?_
      refine r_iload_n dX6_mostAlike_66 rfl ?_
      refine r_invV_l dX6_mostAlike_67 kM6_131 (by decide) (Nat.le_of_ble_eq_true rfl) rfl rfl (Nat.le_of_ble_eq_true rfl) (Nat.le_of_ble_eq_true rfl) (sh_o s15 kk387 (by decide)) (Call.mono (h13.2 c16) (Nat.le_refl _) ?_)
      rintro _ M18 ⟨z17, rfl, s21, h19⟩
      refine ⟨_, rfl, ?_⟩
      have ob22 := h19.1
      refine r_invS_i dX6_mostAlike_70 (by decide) kXn6_158 kM6_158 (by decide) (Nat.le_of_ble_eq_true rfl) rfl rfl (Nat.le_of_ble_eq_true rfl) (Nat.le_of_ble_eq_true rfl) (c_heftOf (by omega) ob22 ⟨_, rfl, ?_⟩)
      refine r_istore (ls2 := [some (vR 387), some (vR 41), some (vI p), some (vI n), some (vI l4), some (vI l5), some (vI (atv M 1512 403 l5)), some (vI (hft z17))]) dX6_mostAlike_73 (Nat.le_of_ble_eq_true rfl) rfl ?_
      refine r_aload_n dX6_mostAlike_75 rfl ?_
      refine r_getS (v := 404) dX6_mostAlike_76 kF6_44 (sh_o s21 kk387 (by decide)) (sh_f s21 rr387_12 (by decide)) ?_
      refine r_iload dX6_mostAlike_79 rfl ?_
      refine r_aload_n dX6_mostAlike_81 rfl ?_
      refine r_getS (v := 404) dX6_mostAlike_82 kF6_44 (sh_o s21 kk387 (by decide)) (sh_f s21 rr387_12 (by decide)) ?_
      refine r_iload dX6_mostAlike_85 rfl ?_
      refine r_invS_i dX6_mostAlike_87 (by decide) kXn6_100 kM6_100 (by decide) (Nat.le_of_ble_eq_true rfl) rfl rfl (Nat.le_of_ble_eq_true rfl) (Nat.le_of_ble_eq_true rfl) (c_at (by omega) (sh_r s21 kk404 (by decide)) ⟨_, rfl, ?_⟩)
      refine r_iconst dX6_mostAlike_90 (by decide) ?_
      refine r_iadd dX6_mostAlike_91 ?_
      refine r_invS_v dX6_mostAlike_92 (by decide) kXn6_55 kM6_55 (by decide) (Nat.le_of_ble_eq_true rfl) rfl rfl (Nat.le_of_ble_eq_true rfl) (Nat.le_of_ble_eq_true rfl) (c_put (by omega) (sh_r s21 kk404 (by decide)) (by decide) ⟨rfl, ?_⟩)
      have K30 : ∀ N23 : jM, N23 = (ptv M18 64 404 (hft z17) (w32 ((atv M18 64 404 (hft z17)) + (1 : Int)))) → Run (e + 1) mX6_mostAlike 95 [some (vR 387), some (vR 41), some (vI p), some (vI n), some (vI l4), some (vI l5), some (vI (atv M 1512 403 l5)), some (vI (hft z17))] [] N23 Q := by
        intro N23 hN29
        have sN24 : Shp N23 := by rw [hN29]; exact s21
        refine r_goto (tgt := 101) dX6_mostAlike_95 rfl ?_
        refine r_iinc (ls2 := [some (vR 387), some (vR 41), some (vI p), some (vI n), some (vI l4), some (vI (w32 (l5 + (1 : Int)))), some (vI (atv M 1512 403 l5)), some (vI (hft z17))]) dX6_mostAlike_101 rfl rfl ?_
        refine r_goto (tgt := 32) dX6_mostAlike_104 rfl ?_
        exact (h19.2 N23 hN29 sN24)
      exact K30 _ rfl
theorem vr_alike_152 {e : Nat} {M : jM} {Q : Option jV → jM → Prop} {p : Int} {n : Int} {l4 : Int} {l5 : Int} {l6 : Int} {l7 : Int}  (he : 4 ≤ e) (hS : Shp M)
  (h : (((64 : Int) ≤ l7) → (Q (some (vI l6)) M)) ∧ (¬ ((64 : Int) ≤ l7) → (Run (e + 1) mX6_mostAlike 152 [some (vR 387), some (vR 41), some (vI p), some (vI n), some (vI l4), some (vI l5), some (vI (if (atv M 64 404 l7) ≤ l6 then l6 else (atv M 64 404 l7))), some (vI (w32 (l7 + (1 : Int))))] [] M Q))) :
  Run (e + 1) mX6_mostAlike 152 [some (vR 387), some (vR 41), some (vI p), some (vI n), some (vI l4), some (vI l5), some (vI l6), some (vI l7)] [] M Q := by
  refine r_iload dX6_mostAlike_152 rfl ?_
  refine r_bipush dX6_mostAlike_154 (by decide) ?_
  refine r_icmp_ge dX6_mostAlike_156 rfl (fun c31 => ?_) (fun c31 => ?_)
  · refine r_iload dX6_mostAlike_195 rfl ?_
    exact r_iret dX6_mostAlike_197 rfl (h.1 c31)
  · refine r_aload_n dX6_mostAlike_159 rfl ?_
    refine r_getS (v := 404) dX6_mostAlike_160 kF6_44 (sh_o hS kk387 (by decide)) (sh_f hS rr387_12 (by decide)) ?_
    refine r_iload dX6_mostAlike_163 rfl ?_
    refine r_invS_i dX6_mostAlike_165 (by decide) kXn6_100 kM6_100 (by decide) (Nat.le_of_ble_eq_true rfl) rfl rfl (Nat.le_of_ble_eq_true rfl) (Nat.le_of_ble_eq_true rfl) (c_at (by omega) (sh_r hS kk404 (by decide)) ⟨_, rfl, ?_⟩)
    refine r_iload dX6_mostAlike_168 rfl ?_
    have K32 : Run (e + 1) mX6_mostAlike 187 [some (vR 387), some (vR 41), some (vI p), some (vI n), some (vI l4), some (vI l5), some (vI l6), some (vI l7)] [vI (if (atv M 64 404 l7) ≤ l6 then l6 else (atv M 64 404 l7))] M Q := by
      refine r_istore (ls2 := [some (vR 387), some (vR 41), some (vI p), some (vI n), some (vI l4), some (vI l5), some (vI (if (atv M 64 404 l7) ≤ l6 then l6 else (atv M 64 404 l7))), some (vI l7)]) dX6_mostAlike_187 (Nat.le_of_ble_eq_true rfl) rfl ?_
      refine r_iinc (ls2 := [some (vR 387), some (vR 41), some (vI p), some (vI n), some (vI l4), some (vI l5), some (vI (if (atv M 64 404 l7) ≤ l6 then l6 else (atv M 64 404 l7))), some (vI (w32 (l7 + (1 : Int))))]) dX6_mostAlike_189 rfl rfl ?_
      refine r_goto (tgt := 152) dX6_mostAlike_192 rfl ?_
      exact (h.2 c31)
    refine r_icmp_le dX6_mostAlike_170 rfl (fun q33 => ?_) (fun q33 => ?_)
    · rw [if_pos q33] at K32
      refine r_iload dX6_mostAlike_185 rfl ?_
      exact K32
    · rw [if_neg q33] at K32
      refine r_aload_n dX6_mostAlike_173 rfl ?_
      refine r_getS (v := 404) dX6_mostAlike_174 kF6_44 (sh_o hS kk387 (by decide)) (sh_f hS rr387_12 (by decide)) ?_
      refine r_iload dX6_mostAlike_177 rfl ?_
      refine r_invS_i dX6_mostAlike_179 (by decide) kXn6_100 kM6_100 (by decide) (Nat.le_of_ble_eq_true rfl) rfl rfl (Nat.le_of_ble_eq_true rfl) (Nat.le_of_ble_eq_true rfl) (c_at (by omega) (sh_r hS kk404 (by decide)) ⟨_, rfl, ?_⟩)
      refine r_goto (tgt := 187) dX6_mostAlike_182 rfl ?_
      exact K32
theorem vr_whom {e : Nat} {M : jM} {Q : Option jV → jM → Prop} {cd : Int} (he : 4 ≤ e) (hS : Shp M)
  (h : Q (some (vI (jrem (jdiv cd (100 : Int)) (10 : Int)))) M) :
  Call (e + 1) mX6_whomOf [vI cd] M Q := by
  show Run (e + 1) mX6_whomOf 0 [some (vI cd)] [] M Q
  refine r_iload_n dX6_whomOf_0 rfl ?_
  refine r_bipush dX6_whomOf_1 (by decide) ?_
  refine r_idiv dX6_whomOf_3 (by decide) ?_
  refine r_bipush dX6_whomOf_4 (by decide) ?_
  refine r_irem dX6_whomOf_6 (by decide) ?_
  exact r_iret dX6_whomOf_7 rfl h
