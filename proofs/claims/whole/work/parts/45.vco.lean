theorem vb_stand {e : Nat} {M : jM} {Q : Option jV → jM → Prop} {n : Int} (he : 4 ≤ e) (hS : Shp M)
  (h : ∀ N1 : jM, N1 = (si M 405 1 (if (8 : Int) ≤ n then (8 : Int) else n)) → Shp N1 → (Run (e + 1) mX0_stand 18 [some (vR 405), some (vR 33), some (vI n), some (vI (0 : Int))] [] N1 Q)) :
  Call (e + 1) mX0_stand [vR 405, vR 33, vI n] M Q := by
  show Run (e + 1) mX0_stand 0 [some (vR 405), some (vR 33), some (vI n), none] [] M Q
  refine r_aload_n dX0_stand_0 rfl ?_
  refine r_iload_n dX0_stand_1 rfl ?_
  refine r_bipush dX0_stand_2 (by decide) ?_
  have K3 : Run (e + 1) mX0_stand 13 [some (vR 405), some (vR 33), some (vI n), none] [vI (if (8 : Int) ≤ n then (8 : Int) else n), vR 405] M Q := by
    refine r_put0 dX0_stand_13 kF0_23 (sh_o hS kk405 (by decide)) (Or.inl rfl) ?_
    have K5 : ∀ N1 : jM, N1 = (si M 405 1 (if (8 : Int) ≤ n then (8 : Int) else n)) → Run (e + 1) mX0_stand 16 [some (vR 405), some (vR 33), some (vI n), none] [] N1 Q := by
      intro N1 hN4
      have sN2 : Shp N1 := by rw [hN4]; exact hS
      refine r_iconst dX0_stand_16 (by decide) ?_
      refine r_istore_n (ls2 := [some (vR 405), some (vR 33), some (vI n), some (vI (0 : Int))]) dX0_stand_17 (Nat.le_of_ble_eq_true rfl) rfl ?_
      exact (h N1 hN4 sN2)
    exact K5 _ rfl
  refine r_icmp_ge dX0_stand_4 rfl (fun q6 => ?_) (fun q6 => ?_)
  · rw [if_pos q6] at K3
    refine r_bipush dX0_stand_11 (by decide) ?_
    exact K3
  · rw [if_neg q6] at K3
    refine r_iload_n dX0_stand_7 rfl ?_
    refine r_goto (tgt := 13) dX0_stand_8 rfl ?_
    exact K3
theorem vb_stand_18 {e : Nat} {M : jM} {Q : Option jV → jM → Prop} {n : Int} {l3 : Int}  (he : 4 ≤ e) (hS : Shp M)
  (h : (((iv M 405 1) ≤ l3) → (Q none M)) ∧ (¬ ((iv M 405 1) ≤ l3) → (Call e mX7_weight [vR 33, vI l3] M (fun r12 M10 => ∃ z9 : Int, r12 = some (vL z9) ∧ Shp M10 ∧ (∀ N14 : jM, N14 = (ptl M10 8 406 l3 z9) → Shp N14 → (Run (e + 1) mX0_stand 18 [some (vR 405), some (vR 33), some (vI n), some (vI (w32 (l3 + (1 : Int))))] [] N14 Q)))))) :
  Run (e + 1) mX0_stand 18 [some (vR 405), some (vR 33), some (vI n), some (vI l3)] [] M Q := by
  refine r_iload_n dX0_stand_18 rfl ?_
  refine r_aload_n dX0_stand_19 rfl ?_
  refine r_get0 dX0_stand_20 kF0_23 (sh_o hS kk405 (by decide)) ?_
  refine r_icmp_ge dX0_stand_23 rfl (fun c8 => ?_) (fun c8 => ?_)
  · exact r_vret dX0_stand_45 rfl (h.1 c8)
  · refine r_aload_n dX0_stand_26 rfl ?_
    refine r_getS (v := 406) dX0_stand_27 kF0_9 (sh_o hS kk405 (by decide)) (sh_f hS rr405_0 (by decide)) ?_
    refine r_iload_n dX0_stand_30 rfl ?_
    refine r_aload_n dX0_stand_31 rfl ?_
    refine r_iload_n dX0_stand_32 rfl ?_
    refine r_invV_l dX0_stand_33 kM0_27 (by decide) (Nat.le_of_ble_eq_true rfl) rfl rfl (Nat.le_of_ble_eq_true rfl) (Nat.le_of_ble_eq_true rfl) (sh_o hS kk33 (by decide)) (Call.mono (h.2 c8) (Nat.le_refl _) ?_)
    rintro _ M10 ⟨z9, rfl, s13, h11⟩
    refine ⟨_, rfl, ?_⟩
    refine r_invS_v dX0_stand_36 (by decide) kXn0_33 kM0_33 (by decide) (Nat.le_of_ble_eq_true rfl) rfl rfl (Nat.le_of_ble_eq_true rfl) (Nat.le_of_ble_eq_true rfl) (c_putLong (by omega) (sh_r s13 kk406 (by decide)) (by decide) ⟨rfl, ?_⟩)
    have K17 : ∀ N14 : jM, N14 = (ptl M10 8 406 l3 z9) → Run (e + 1) mX0_stand 39 [some (vR 405), some (vR 33), some (vI n), some (vI l3)] [] N14 Q := by
      intro N14 hN16
      have sN15 : Shp N14 := by rw [hN16]; exact s13
      refine r_iinc (ls2 := [some (vR 405), some (vR 33), some (vI n), some (vI (w32 (l3 + (1 : Int))))]) dX0_stand_39 rfl rfl ?_
      refine r_goto (tgt := 18) dX0_stand_42 rfl ?_
      exact (h11 N14 hN16 sN15)
    exact K17 _ rfl
theorem vb_loadOf {e : Nat} {M : jM} {Q : Option jV → jM → Prop} {sm : Int} (he : 4 ≤ e) (hS : Shp M)
  (h : Run (e + 1) mX0_loadOf 5 [some (vR 405), some (vI sm), some (vL (0 : Int)), none, some (vI (0 : Int))] [] M Q) :
  Call (e + 1) mX0_loadOf [vR 405, vI sm] M Q := by
  show Run (e + 1) mX0_loadOf 0 [some (vR 405), some (vI sm), none, none, none] [] M Q
  refine r_lconst0 dX0_loadOf_0 ?_
  refine r_lstore_n (ls2 := [some (vR 405), some (vI sm), some (vL (0 : Int)), none, none]) dX0_loadOf_1 (Nat.le_of_ble_eq_true rfl) rfl ?_
  refine r_iconst dX0_loadOf_2 (by decide) ?_
  refine r_istore (ls2 := [some (vR 405), some (vI sm), some (vL (0 : Int)), none, some (vI (0 : Int))]) dX0_loadOf_3 (Nat.le_of_ble_eq_true rfl) rfl ?_
  exact h
theorem vb_loadOf_5 {e : Nat} {M : jM} {Q : Option jV → jM → Prop} {sm : Int} {l2 : Int} {l4 : Int}  (he : 4 ≤ e) (hS : Shp M)
  (h : (((iv M 405 1) ≤ l4) → (Q (some (vL l2)) M)) ∧ (¬ ((iv M 405 1) ≤ l4) → ((((jand (jshr sm l4) (1 : Int)) ≠ (1 : Int)) → (Run (e + 1) mX0_loadOf 5 [some (vR 405), some (vI sm), some (vL l2), none, some (vI (w32 (l4 + (1 : Int))))] [] M Q)) ∧ (¬ ((jand (jshr sm l4) (1 : Int)) ≠ (1 : Int)) → ((0 ≤ (w64 (l2 + (atl M 8 406 l4))) ∧ (w64 (l2 + (atl M 8 406 l4))) < 4611686018427387904) ∧ (Run (e + 1) mX0_loadOf 5 [some (vR 405), some (vI sm), some (vL (rnd (w64 (l2 + (atl M 8 406 l4))))), none, some (vI (w32 (l4 + (1 : Int))))] [] M Q)))))) :
  Run (e + 1) mX0_loadOf 5 [some (vR 405), some (vI sm), some (vL l2), none, some (vI l4)] [] M Q := by
  refine r_iload dX0_loadOf_5 rfl ?_
  refine r_aload_n dX0_loadOf_7 rfl ?_
  refine r_get0 dX0_loadOf_8 kF0_23 (sh_o hS kk405 (by decide)) ?_
  refine r_icmp_ge dX0_loadOf_11 rfl (fun c1 => ?_) (fun c1 => ?_)
  · refine r_lload_n dX0_loadOf_45 rfl ?_
    exact r_lret dX0_loadOf_46 rfl (h.1 c1)
  · refine r_iload_n dX0_loadOf_14 rfl ?_
    refine r_iload dX0_loadOf_15 rfl ?_
    refine r_ishr dX0_loadOf_17 ?_
    refine r_iconst dX0_loadOf_18 (by decide) ?_
    refine r_iand dX0_loadOf_19 ?_
    refine r_iconst dX0_loadOf_20 (by decide) ?_
    refine r_icmp_ne dX0_loadOf_21 rfl (fun c2 => ?_) (fun c2 => ?_)
    · refine r_iinc (ls2 := [some (vR 405), some (vI sm), some (vL l2), none, some (vI (w32 (l4 + (1 : Int))))]) dX0_loadOf_39 rfl rfl ?_
      refine r_goto (tgt := 5) dX0_loadOf_42 rfl ?_
      exact ((h.2 c1).1 c2)
    · refine r_lload_n dX0_loadOf_24 rfl ?_
      refine r_aload_n dX0_loadOf_25 rfl ?_
      refine r_getS (v := 406) dX0_loadOf_26 kF0_9 (sh_o hS kk405 (by decide)) (sh_f hS rr405_0 (by decide)) ?_
      refine r_iload dX0_loadOf_29 rfl ?_
      refine r_invS_l dX0_loadOf_31 (by decide) kXn0_37 kM0_37 (by decide) (Nat.le_of_ble_eq_true rfl) rfl rfl (Nat.le_of_ble_eq_true rfl) (Nat.le_of_ble_eq_true rfl) (c_longAt (by omega) (sh_r hS kk406 (by decide)) ⟨_, rfl, ?_⟩)
      refine r_ladd dX0_loadOf_34 ?_
      have ob3 := ((h.2 c1).2 c2).1
      refine r_invS_l dX0_loadOf_35 (by decide) kXn0_41 kM0_41 (by decide) (Nat.le_of_ble_eq_true rfl) rfl rfl (Nat.le_of_ble_eq_true rfl) (Nat.le_of_ble_eq_true rfl) (c_rounded (by omega) ob3 ⟨_, rfl, ?_⟩)
      refine r_lstore_n (ls2 := [some (vR 405), some (vI sm), some (vL (rnd (w64 (l2 + (atl M 8 406 l4))))), none, some (vI l4)]) dX0_loadOf_38 (Nat.le_of_ble_eq_true rfl) rfl ?_
      refine r_iinc (ls2 := [some (vR 405), some (vI sm), some (vL (rnd (w64 (l2 + (atl M 8 406 l4))))), none, some (vI (w32 (l4 + (1 : Int))))]) dX0_loadOf_39 rfl rfl ?_
      refine r_goto (tgt := 5) dX0_loadOf_42 rfl ?_
      exact ((h.2 c1).2 c2).2
theorem vb_bears {e : Nat} {M : jM} {Q : Option jV → jM → Prop} {t : Int} {sm : Int} (he : 4 ≤ e) (hS : Shp M)
  (h : Call e mX0_loadOf [vR 405, vI sm] M (fun r4 M2 => ∃ z1 : Int, r4 = some (vL z1) ∧ Shp M2 ∧ (Q (some (vI (if (0 : Int) < (jcmp z1 (w64 ((1000000 : Int) * t))) then (0 : Int) else (1 : Int)))) M2))) :
  Call (e + 1) mX0_bears [vR 405, vI t, vI sm] M Q := by
  show Run (e + 1) mX0_bears 0 [some (vR 405), some (vI t), some (vI sm)] [] M Q
  refine r_aload_n dX0_bears_0 rfl ?_
  refine r_iload_n dX0_bears_1 rfl ?_
  refine r_invV_l dX0_bears_2 kM0_45 (by decide) (Nat.le_of_ble_eq_true rfl) rfl rfl (Nat.le_of_ble_eq_true rfl) (Nat.le_of_ble_eq_true rfl) (sh_o hS kk405 (by decide)) (Call.mono h (Nat.le_refl _) ?_)
  rintro _ M2 ⟨z1, rfl, s5, h3⟩
  refine ⟨_, rfl, ?_⟩
  refine r_ldc2 dX0_bears_5 kL0_48 ?_
  refine r_iload_n dX0_bears_8 rfl ?_
  refine r_i2l dX0_bears_9 ?_
  refine r_lmul dX0_bears_10 ?_
  refine r_lcmp dX0_bears_11 ?_
  have K6 : Run (e + 1) mX0_bears 20 [some (vR 405), some (vI t), some (vI sm)] [vI (if (0 : Int) < (jcmp z1 (w64 ((1000000 : Int) * t))) then (0 : Int) else (1 : Int))] M2 Q := by
    exact r_zret dX0_bears_20 rfl (by (repeat' split) <;> first | exact Or.inl rfl | exact Or.inr rfl) h3
  refine r_if_gt dX0_bears_12 rfl (fun q7 => ?_) (fun q7 => ?_)
  · rw [if_pos q7] at K6
    refine r_iconst dX0_bears_19 (by decide) ?_
    exact K6
  · rw [if_neg q7] at K6
    refine r_iconst dX0_bears_15 (by decide) ?_
    refine r_goto (tgt := 20) dX0_bears_16 rfl ?_
    exact K6
theorem vb_most {e : Nat} {M : jM} {Q : Option jV → jM → Prop} {t : Int} (he : 4 ≤ e) (hS : Shp M)
  (h : Run (e + 1) mX0_mostAtOnce 4 [some (vR 405), some (vI t), some (vI (0 : Int)), some (vI (1 : Int))] [] M Q) :
  Call (e + 1) mX0_mostAtOnce [vR 405, vI t] M Q := by
  show Run (e + 1) mX0_mostAtOnce 0 [some (vR 405), some (vI t), none, none] [] M Q
  refine r_iconst dX0_mostAtOnce_0 (by decide) ?_
  refine r_istore_n (ls2 := [some (vR 405), some (vI t), some (vI (0 : Int)), none]) dX0_mostAtOnce_1 (Nat.le_of_ble_eq_true rfl) rfl ?_
  refine r_iconst dX0_mostAtOnce_2 (by decide) ?_
  refine r_istore_n (ls2 := [some (vR 405), some (vI t), some (vI (0 : Int)), some (vI (1 : Int))]) dX0_mostAtOnce_3 (Nat.le_of_ble_eq_true rfl) rfl ?_
  exact h
theorem vb_most_4 {e : Nat} {M : jM} {Q : Option jV → jM → Prop} {t : Int} {l2 : Int} {l3 : Int}  (he : 4 ≤ e) (hS : Shp M)
  (h : (((jshl (1 : Int) (iv M 405 1)) ≤ l3) → (Q (some (vI l2)) M)) ∧ (¬ ((jshl (1 : Int) (iv M 405 1)) ≤ l3) → (Call e mJ6_bitCount_0f7a4 [vI l3] M (fun r5 M3 => ∃ z2 : Int, r5 = some (vI z2) ∧ Shp M3 ∧ (Call e mJ6_bitCount_0f7a4 [vI l2] M3 (fun r10 M8 => ∃ z7 : Int, r10 = some (vI z7) ∧ Shp M8 ∧ (((z2 ≤ z7) → (Run (e + 1) mX0_mostAtOnce 4 [some (vR 405), some (vI t), some (vI l2), some (vI (w32 (l3 + (1 : Int))))] [] M8 Q)) ∧ (¬ (z2 ≤ z7) → (Call e mX0_bears [vR 405, vI t, vI l3] M8 (fun r16 M14 => ∃ z13 : Int, r16 = some (vI z13) ∧ Shp M14 ∧ (((z13 = (0 : Int)) → (Run (e + 1) mX0_mostAtOnce 4 [some (vR 405), some (vI t), some (vI l2), some (vI (w32 (l3 + (1 : Int))))] [] M14 Q)) ∧ (¬ (z13 = (0 : Int)) → (Run (e + 1) mX0_mostAtOnce 4 [some (vR 405), some (vI t), some (vI l3), some (vI (w32 (l3 + (1 : Int))))] [] M14 Q))))))))))))) :
  Run (e + 1) mX0_mostAtOnce 4 [some (vR 405), some (vI t), some (vI l2), some (vI l3)] [] M Q := by
  refine r_iload_n dX0_mostAtOnce_4 rfl ?_
  refine r_iconst dX0_mostAtOnce_5 (by decide) ?_
  refine r_aload_n dX0_mostAtOnce_6 rfl ?_
  refine r_get0 dX0_mostAtOnce_7 kF0_23 (sh_o hS kk405 (by decide)) ?_
  refine r_ishl dX0_mostAtOnce_10 ?_
  refine r_icmp_ge dX0_mostAtOnce_11 rfl (fun c1 => ?_) (fun c1 => ?_)
  · refine r_iload_n dX0_mostAtOnce_42 rfl ?_
    exact r_iret dX0_mostAtOnce_43 rfl (h.1 c1)
  · refine r_iload_n dX0_mostAtOnce_14 rfl ?_
    refine r_invS_i dX0_mostAtOnce_15 (by decide) kXn0_50 kM0_50 (by decide) (Nat.le_of_ble_eq_true rfl) rfl rfl (Nat.le_of_ble_eq_true rfl) (Nat.le_of_ble_eq_true rfl) (Call.mono (h.2 c1) (Nat.le_refl _) ?_)
    rintro _ M3 ⟨z2, rfl, s6, h4⟩
    refine ⟨_, rfl, ?_⟩
    refine r_iload_n dX0_mostAtOnce_18 rfl ?_
    refine r_invS_i dX0_mostAtOnce_19 (by decide) kXn0_50 kM0_50 (by decide) (Nat.le_of_ble_eq_true rfl) rfl rfl (Nat.le_of_ble_eq_true rfl) (Nat.le_of_ble_eq_true rfl) (Call.mono h4 (Nat.le_refl _) ?_)
    rintro _ M8 ⟨z7, rfl, s11, h9⟩
    refine ⟨_, rfl, ?_⟩
    refine r_icmp_le dX0_mostAtOnce_22 rfl (fun c12 => ?_) (fun c12 => ?_)
    · refine r_iinc (ls2 := [some (vR 405), some (vI t), some (vI l2), some (vI (w32 (l3 + (1 : Int))))]) dX0_mostAtOnce_36 rfl rfl ?_
      refine r_goto (tgt := 4) dX0_mostAtOnce_39 rfl ?_
      exact (h9.1 c12)
    · refine r_aload_n dX0_mostAtOnce_25 rfl ?_
      refine r_iload_n dX0_mostAtOnce_26 rfl ?_
      refine r_iload_n dX0_mostAtOnce_27 rfl ?_
      refine r_invV_i dX0_mostAtOnce_28 kM0_56 (by decide) (Nat.le_of_ble_eq_true rfl) rfl rfl (Nat.le_of_ble_eq_true rfl) (Nat.le_of_ble_eq_true rfl) (sh_o s11 kk405 (by decide)) (Call.mono (h9.2 c12) (Nat.le_refl _) ?_)
      rintro _ M14 ⟨z13, rfl, s17, h15⟩
      refine ⟨_, rfl, ?_⟩
      refine r_if_eq dX0_mostAtOnce_31 rfl (fun c18 => ?_) (fun c18 => ?_)
      · refine r_iinc (ls2 := [some (vR 405), some (vI t), some (vI l2), some (vI (w32 (l3 + (1 : Int))))]) dX0_mostAtOnce_36 rfl rfl ?_
        refine r_goto (tgt := 4) dX0_mostAtOnce_39 rfl ?_
        exact (h15.1 c18)
      · refine r_iload_n dX0_mostAtOnce_34 rfl ?_
        refine r_istore_n (ls2 := [some (vR 405), some (vI t), some (vI l3), some (vI l3)]) dX0_mostAtOnce_35 (Nat.le_of_ble_eq_true rfl) rfl ?_
        refine r_iinc (ls2 := [some (vR 405), some (vI t), some (vI l3), some (vI (w32 (l3 + (1 : Int))))]) dX0_mostAtOnce_36 rfl rfl ?_
        refine r_goto (tgt := 4) dX0_mostAtOnce_39 rfl ?_
        exact (h15.2 c18)
theorem vb_goings {e : Nat} {M : jM} {Q : Option jV → jM → Prop} {t : Int} (he : 4 ≤ e) (hS : Shp M)
  (h : Run (e + 1) mX0_fewestGoings 2 [some (vR 405), some (vI t), some (vI (0 : Int)), none] [] M Q) :
  Call (e + 1) mX0_fewestGoings [vR 405, vI t] M Q := by
  show Run (e + 1) mX0_fewestGoings 0 [some (vR 405), some (vI t), none, none] [] M Q
  refine r_iconst dX0_fewestGoings_0 (by decide) ?_
  refine r_istore_n (ls2 := [some (vR 405), some (vI t), some (vI (0 : Int)), none]) dX0_fewestGoings_1 (Nat.le_of_ble_eq_true rfl) rfl ?_
  exact h
theorem vb_goings_2 {e : Nat} {M : jM} {Q : Option jV → jM → Prop} {t : Int} {l2 : Int} {l3 : Option jV}  (he : 4 ≤ e) (hS : Shp M)
  (h : (((iv M 405 1) ≤ l2) → (Run (e + 1) mX0_fewestGoings 38 [some (vR 405), some (vI t), some (vI (jshl (1 : Int) (iv M 405 1))), some (vI (1 : Int))] [] M Q)) ∧ (¬ ((iv M 405 1) ≤ l2) → (Call e mX0_bears [vR 405, vI t, vI (jshl (1 : Int) l2)] M (fun r5 M3 => ∃ z2 : Int, r5 = some (vI z2) ∧ Shp M3 ∧ (((z2 ≠ (0 : Int)) → (Run (e + 1) mX0_fewestGoings 2 [some (vR 405), some (vI t), some (vI (w32 (l2 + (1 : Int)))), l3] [] M3 Q)) ∧ (¬ (z2 ≠ (0 : Int)) → (Q (some (vI (-1 : Int))) M3))))))) :
  Run (e + 1) mX0_fewestGoings 2 [some (vR 405), some (vI t), some (vI l2), l3] [] M Q := by
  refine r_iload_n dX0_fewestGoings_2 rfl ?_
  refine r_aload_n dX0_fewestGoings_3 rfl ?_
  refine r_get0 dX0_fewestGoings_4 kF0_23 (sh_o hS kk405 (by decide)) ?_
  refine r_icmp_ge dX0_fewestGoings_7 rfl (fun c1 => ?_) (fun c1 => ?_)
  · refine r_iconst dX0_fewestGoings_29 (by decide) ?_
    refine r_aload_n dX0_fewestGoings_30 rfl ?_
    refine r_get0 dX0_fewestGoings_31 kF0_23 (sh_o hS kk405 (by decide)) ?_
    refine r_ishl dX0_fewestGoings_34 ?_
    refine r_istore_n (ls2 := [some (vR 405), some (vI t), some (vI (jshl (1 : Int) (iv M 405 1))), l3]) dX0_fewestGoings_35 (Nat.le_of_ble_eq_true rfl) rfl ?_
    refine r_iconst dX0_fewestGoings_36 (by decide) ?_
    refine r_istore_n (ls2 := [some (vR 405), some (vI t), some (vI (jshl (1 : Int) (iv M 405 1))), some (vI (1 : Int))]) dX0_fewestGoings_37 (Nat.le_of_ble_eq_true rfl) rfl ?_
    exact (h.1 c1)
  · refine r_aload_n dX0_fewestGoings_10 rfl ?_
    refine r_iload_n dX0_fewestGoings_11 rfl ?_
    refine r_iconst dX0_fewestGoings_12 (by decide) ?_
    refine r_iload_n dX0_fewestGoings_13 rfl ?_
    refine r_ishl dX0_fewestGoings_14 ?_
    refine r_invV_i dX0_fewestGoings_15 kM0_56 (by decide) (Nat.le_of_ble_eq_true rfl) rfl rfl (Nat.le_of_ble_eq_true rfl) (Nat.le_of_ble_eq_true rfl) (sh_o hS kk405 (by decide)) (Call.mono (h.2 c1) (Nat.le_refl _) ?_)
    rintro _ M3 ⟨z2, rfl, s6, h4⟩
    refine ⟨_, rfl, ?_⟩
    refine r_if_ne dX0_fewestGoings_18 rfl (fun c7 => ?_) (fun c7 => ?_)
    · refine r_iinc (ls2 := [some (vR 405), some (vI t), some (vI (w32 (l2 + (1 : Int)))), l3]) dX0_fewestGoings_23 rfl rfl ?_
      refine r_goto (tgt := 2) dX0_fewestGoings_26 rfl ?_
      exact (h4.1 c7)
    · refine r_iconst dX0_fewestGoings_21 (by decide) ?_
      exact r_iret dX0_fewestGoings_22 rfl (h4.2 c7)
theorem vb_goings_38 {e : Nat} {M : jM} {Q : Option jV → jM → Prop} {t : Int} {l2 : Int} {l3 : Int}  (he : 4 ≤ e) (hS : Shp M)
  (h : ((l2 ≤ l3) → (∀ N9 : jM, N9 = (ptv M 256 408 (0 : Int) (0 : Int)) → Shp N9 → (Run (e + 1) mX0_fewestGoings 81 [some (vR 405), some (vI t), some (vI l2), some (vI (1 : Int))] [] N9 Q))) ∧ (¬ (l2 ≤ l3) → ((((256 : Int) ≤ l3) → (∀ N12 : jM, N12 = (ptv M 256 408 (0 : Int) (0 : Int)) → Shp N12 → (Run (e + 1) mX0_fewestGoings 81 [some (vR 405), some (vI t), some (vI l2), some (vI (1 : Int))] [] N12 Q))) ∧ (¬ ((256 : Int) ≤ l3) → (Call e mX0_bears [vR 405, vI t, vI l3] M (fun r17 M15 => ∃ z14 : Int, r17 = some (vI z14) ∧ Shp M15 ∧ (((0 ≤ l3 ∧ l3 < 256) ∧ (z14 = 0 ∨ z14 = 1)) ∧ (∀ N20 : jM, N20 = (si M15 407 (l3).toNat z14) → Shp N20 → (Run (e + 1) mX0_fewestGoings 38 [some (vR 405), some (vI t), some (vI l2), some (vI (w32 (l3 + (1 : Int))))] [] N20 Q))))))))) :
  Run (e + 1) mX0_fewestGoings 38 [some (vR 405), some (vI t), some (vI l2), some (vI l3)] [] M Q := by
  refine r_iload_n dX0_fewestGoings_38 rfl ?_
  refine r_iload_n dX0_fewestGoings_39 rfl ?_
  refine r_icmp_ge dX0_fewestGoings_40 rfl (fun c8 => ?_) (fun c8 => ?_)
  · refine r_aload_n dX0_fewestGoings_70 rfl ?_
    refine r_getS (v := 408) dX0_fewestGoings_71 kF0_19 (sh_o hS kk405 (by decide)) (sh_f hS rr405_3 (by decide)) ?_
    refine r_iconst dX0_fewestGoings_74 (by decide) ?_
    refine r_iconst dX0_fewestGoings_75 (by decide) ?_
    refine r_invS_v dX0_fewestGoings_76 (by decide) kXn0_60 kM0_60 (by decide) (Nat.le_of_ble_eq_true rfl) rfl rfl (Nat.le_of_ble_eq_true rfl) (Nat.le_of_ble_eq_true rfl) (c_put (by omega) (sh_r hS kk408 (by decide)) (by decide) ⟨rfl, ?_⟩)
    have K23 : ∀ N9 : jM, N9 = (ptv M 256 408 (0 : Int) (0 : Int)) → Run (e + 1) mX0_fewestGoings 79 [some (vR 405), some (vI t), some (vI l2), some (vI l3)] [] N9 Q := by
      intro N9 hN22
      have sN10 : Shp N9 := by rw [hN22]; exact hS
      refine r_iconst dX0_fewestGoings_79 (by decide) ?_
      refine r_istore_n (ls2 := [some (vR 405), some (vI t), some (vI l2), some (vI (1 : Int))]) dX0_fewestGoings_80 (Nat.le_of_ble_eq_true rfl) rfl ?_
      exact ((h.1 c8) N9 hN22 sN10)
    exact K23 _ rfl
  · refine r_iload_n dX0_fewestGoings_43 rfl ?_
    refine r_aload_n dX0_fewestGoings_44 rfl ?_
    refine r_getS (v := 407) dX0_fewestGoings_45 kF0_15 (sh_o hS kk405 (by decide)) (sh_f hS rr405_2 (by decide)) ?_
    refine r_lenS dX0_fewestGoings_48 (sh_r hS kk407 (by decide)) (by decide) ?_
    refine r_icmp_ge dX0_fewestGoings_49 rfl (fun c11 => ?_) (fun c11 => ?_)
    · refine r_aload_n dX0_fewestGoings_70 rfl ?_
      refine r_getS (v := 408) dX0_fewestGoings_71 kF0_19 (sh_o hS kk405 (by decide)) (sh_f hS rr405_3 (by decide)) ?_
      refine r_iconst dX0_fewestGoings_74 (by decide) ?_
      refine r_iconst dX0_fewestGoings_75 (by decide) ?_
      refine r_invS_v dX0_fewestGoings_76 (by decide) kXn0_60 kM0_60 (by decide) (Nat.le_of_ble_eq_true rfl) rfl rfl (Nat.le_of_ble_eq_true rfl) (Nat.le_of_ble_eq_true rfl) (c_put (by omega) (sh_r hS kk408 (by decide)) (by decide) ⟨rfl, ?_⟩)
      have K25 : ∀ N12 : jM, N12 = (ptv M 256 408 (0 : Int) (0 : Int)) → Run (e + 1) mX0_fewestGoings 79 [some (vR 405), some (vI t), some (vI l2), some (vI l3)] [] N12 Q := by
        intro N12 hN24
        have sN13 : Shp N12 := by rw [hN24]; exact hS
        refine r_iconst dX0_fewestGoings_79 (by decide) ?_
        refine r_istore_n (ls2 := [some (vR 405), some (vI t), some (vI l2), some (vI (1 : Int))]) dX0_fewestGoings_80 (Nat.le_of_ble_eq_true rfl) rfl ?_
        exact (((h.2 c8).1 c11) N12 hN24 sN13)
      exact K25 _ rfl
    · refine r_aload_n dX0_fewestGoings_52 rfl ?_
      refine r_getS (v := 407) dX0_fewestGoings_53 kF0_15 (sh_o hS kk405 (by decide)) (sh_f hS rr405_2 (by decide)) ?_
      refine r_iload_n dX0_fewestGoings_56 rfl ?_
      refine r_aload_n dX0_fewestGoings_57 rfl ?_
      refine r_iload_n dX0_fewestGoings_58 rfl ?_
      refine r_iload_n dX0_fewestGoings_59 rfl ?_
      refine r_invV_i dX0_fewestGoings_60 kM0_56 (by decide) (Nat.le_of_ble_eq_true rfl) rfl rfl (Nat.le_of_ble_eq_true rfl) (Nat.le_of_ble_eq_true rfl) (sh_o hS kk405 (by decide)) (Call.mono ((h.2 c8).2 c11) (Nat.le_refl _) ?_)
      rintro _ M15 ⟨z14, rfl, s18, h16⟩
      refine ⟨_, rfl, ?_⟩
      have ob19 := h16.1
      refine r_bastore dX0_fewestGoings_63 ⟨jro_ix (sh_r s18 kk407 (by decide)) ob19.1, (by decide)⟩ ob19.2 ?_
      have K27 : ∀ N20 : jM, N20 = (si M15 407 (l3).toNat z14) → Run (e + 1) mX0_fewestGoings 64 [some (vR 405), some (vI t), some (vI l2), some (vI l3)] [] N20 Q := by
        intro N20 hN26
        have sN21 : Shp N20 := by rw [hN26]; exact s18
        refine r_iinc (ls2 := [some (vR 405), some (vI t), some (vI l2), some (vI (w32 (l3 + (1 : Int))))]) dX0_fewestGoings_64 rfl rfl ?_
        refine r_goto (tgt := 38) dX0_fewestGoings_67 rfl ?_
        exact (h16.2 N20 hN26 sN21)
      exact K27 _ rfl
theorem vb_goings_81 {e : Nat} {M : jM} {Q : Option jV → jM → Prop} {t : Int} {l2 : Int} {l3 : Int}  (he : 4 ≤ e) (hS : Shp M)
  (h : ((l2 ≤ l3) → (Q (some (vI (atv M 256 408 (w32 (l2 - (1 : Int)))))) M)) ∧ (¬ (l2 ≤ l3) → (Call e mX0_fewestFor [vR 405, vI l3] M (fun r32 M30 => ∃ z29 : Int, r32 = some (vI z29) ∧ Shp M30 ∧ (∀ N34 : jM, N34 = (ptv M30 256 408 l3 z29) → Shp N34 → (Run (e + 1) mX0_fewestGoings 81 [some (vR 405), some (vI t), some (vI l2), some (vI (w32 (l3 + (1 : Int))))] [] N34 Q)))))) :
  Run (e + 1) mX0_fewestGoings 81 [some (vR 405), some (vI t), some (vI l2), some (vI l3)] [] M Q := by
  refine r_iload_n dX0_fewestGoings_81 rfl ?_
  refine r_iload_n dX0_fewestGoings_82 rfl ?_
  refine r_icmp_ge dX0_fewestGoings_83 rfl (fun c28 => ?_) (fun c28 => ?_)
  · refine r_aload_n dX0_fewestGoings_105 rfl ?_
    refine r_getS (v := 408) dX0_fewestGoings_106 kF0_19 (sh_o hS kk405 (by decide)) (sh_f hS rr405_3 (by decide)) ?_
    refine r_iload_n dX0_fewestGoings_109 rfl ?_
    refine r_iconst dX0_fewestGoings_110 (by decide) ?_
    refine r_isub dX0_fewestGoings_111 ?_
    refine r_invS_i dX0_fewestGoings_112 (by decide) kXn0_67 kM0_67 (by decide) (Nat.le_of_ble_eq_true rfl) rfl rfl (Nat.le_of_ble_eq_true rfl) (Nat.le_of_ble_eq_true rfl) (c_at (by omega) (sh_r hS kk408 (by decide)) ⟨_, rfl, ?_⟩)
    exact r_iret dX0_fewestGoings_115 rfl (h.1 c28)
  · refine r_aload_n dX0_fewestGoings_86 rfl ?_
    refine r_getS (v := 408) dX0_fewestGoings_87 kF0_19 (sh_o hS kk405 (by decide)) (sh_f hS rr405_3 (by decide)) ?_
    refine r_iload_n dX0_fewestGoings_90 rfl ?_
    refine r_aload_n dX0_fewestGoings_91 rfl ?_
    refine r_iload_n dX0_fewestGoings_92 rfl ?_
    refine r_invV_i dX0_fewestGoings_93 kM0_64 (by decide) (Nat.le_of_ble_eq_true rfl) rfl rfl (Nat.le_of_ble_eq_true rfl) (Nat.le_of_ble_eq_true rfl) (sh_o hS kk405 (by decide)) (Call.mono (h.2 c28) (Nat.le_refl _) ?_)
    rintro _ M30 ⟨z29, rfl, s33, h31⟩
    refine ⟨_, rfl, ?_⟩
    refine r_invS_v dX0_fewestGoings_96 (by decide) kXn0_60 kM0_60 (by decide) (Nat.le_of_ble_eq_true rfl) rfl rfl (Nat.le_of_ble_eq_true rfl) (Nat.le_of_ble_eq_true rfl) (c_put (by omega) (sh_r s33 kk408 (by decide)) (by decide) ⟨rfl, ?_⟩)
    have K37 : ∀ N34 : jM, N34 = (ptv M30 256 408 l3 z29) → Run (e + 1) mX0_fewestGoings 99 [some (vR 405), some (vI t), some (vI l2), some (vI l3)] [] N34 Q := by
      intro N34 hN36
      have sN35 : Shp N34 := by rw [hN36]; exact s33
      refine r_iinc (ls2 := [some (vR 405), some (vI t), some (vI l2), some (vI (w32 (l3 + (1 : Int))))]) dX0_fewestGoings_99 rfl rfl ?_
      refine r_goto (tgt := 81) dX0_fewestGoings_102 rfl ?_
      exact (h31 N34 hN36 sN35)
    exact K37 _ rfl
theorem vb_fewestFor {e : Nat} {M : jM} {Q : Option jV → jM → Prop} {al : Int} (he : 4 ≤ e) (hS : Shp M)
  (h : Run (e + 1) mX0_fewestFor 10 [some (vR 405), some (vI al), some (vI (8 : Int)), some (vI al), some (vI (256 : Int))] [] M Q) :
  Call (e + 1) mX0_fewestFor [vR 405, vI al] M Q := by
  show Run (e + 1) mX0_fewestFor 0 [some (vR 405), some (vI al), none, none, none] [] M Q
  refine r_bipush dX0_fewestFor_0 (by decide) ?_
  refine r_istore_n (ls2 := [some (vR 405), some (vI al), some (vI (8 : Int)), none, none]) dX0_fewestFor_2 (Nat.le_of_ble_eq_true rfl) rfl ?_
  refine r_iload_n dX0_fewestFor_3 rfl ?_
  refine r_istore_n (ls2 := [some (vR 405), some (vI al), some (vI (8 : Int)), some (vI al), none]) dX0_fewestFor_4 (Nat.le_of_ble_eq_true rfl) rfl ?_
  refine r_sipush dX0_fewestFor_5 (by decide) ?_
  refine r_istore (ls2 := [some (vR 405), some (vI al), some (vI (8 : Int)), some (vI al), some (vI (256 : Int))]) dX0_fewestFor_8 (Nat.le_of_ble_eq_true rfl) rfl ?_
  exact h
theorem vb_fewestFor_10 {e : Nat} {M : jM} {Q : Option jV → jM → Prop} {al : Int} {l2 : Int} {l3 : Int} {l4 : Int}  (he : 4 ≤ e) (hS : Shp M)
  (h : ((l4 ≤ (0 : Int)) → (Q (some (vI l2)) M)) ∧ (¬ (l4 ≤ (0 : Int)) → (((l3 ≤ (0 : Int)) → (Q (some (vI l2)) M)) ∧ (¬ (l3 ≤ (0 : Int)) → ((((256 : Int) ≤ l3) → (Run (e + 1) mX0_fewestFor 10 [some (vR 405), some (vI al), some (vI l2), some (vI (jand (w32 (l3 - (1 : Int))) al)), some (vI (w32 (l4 + (-1 : Int))))] [] M Q)) ∧ (¬ ((256 : Int) ≤ l3) → ((0 ≤ l3 ∧ l3 < 256) ∧ ((((iv M 407 (l3).toNat) = (0 : Int)) → (Run (e + 1) mX0_fewestFor 10 [some (vR 405), some (vI al), some (vI l2), some (vI (jand (w32 (l3 - (1 : Int))) al)), some (vI (w32 (l4 + (-1 : Int))))] [] M Q)) ∧ (¬ ((iv M 407 (l3).toNat) = (0 : Int)) → (((l2 ≤ (w32 ((atv M 256 408 (jxor al l3)) + (1 : Int)))) → (Run (e + 1) mX0_fewestFor 10 [some (vR 405), some (vI al), some (vI l2), some (vI (jand (w32 (l3 - (1 : Int))) al)), some (vI (w32 (l4 + (-1 : Int))))] [] M Q)) ∧ (¬ (l2 ≤ (w32 ((atv M 256 408 (jxor al l3)) + (1 : Int)))) → (Run (e + 1) mX0_fewestFor 10 [some (vR 405), some (vI al), some (vI (w32 ((atv M 256 408 (jxor al l3)) + (1 : Int)))), some (vI (jand (w32 (l3 - (1 : Int))) al)), some (vI (w32 (l4 + (-1 : Int))))] [] M Q)))))))))))) :
  Run (e + 1) mX0_fewestFor 10 [some (vR 405), some (vI al), some (vI l2), some (vI l3), some (vI l4)] [] M Q := by
  refine r_iload dX0_fewestFor_10 rfl ?_
  refine r_if_le dX0_fewestFor_12 rfl (fun c1 => ?_) (fun c1 => ?_)
  · refine r_iload_n dX0_fewestFor_78 rfl ?_
    exact r_iret dX0_fewestFor_79 rfl (h.1 c1)
  · refine r_iload_n dX0_fewestFor_15 rfl ?_
    refine r_if_le dX0_fewestFor_16 rfl (fun c2 => ?_) (fun c2 => ?_)
    · refine r_iload_n dX0_fewestFor_78 rfl ?_
      exact r_iret dX0_fewestFor_79 rfl ((h.2 c1).1 c2)
    · refine r_iload_n dX0_fewestFor_19 rfl ?_
      refine r_aload_n dX0_fewestFor_20 rfl ?_
      refine r_getS (v := 407) dX0_fewestFor_21 kF0_15 (sh_o hS kk405 (by decide)) (sh_f hS rr405_2 (by decide)) ?_
      refine r_lenS dX0_fewestFor_24 (sh_r hS kk407 (by decide)) (by decide) ?_
      refine r_icmp_ge dX0_fewestFor_25 rfl (fun c3 => ?_) (fun c3 => ?_)
      · refine r_iload_n dX0_fewestFor_66 rfl ?_
        refine r_iconst dX0_fewestFor_67 (by decide) ?_
        refine r_isub dX0_fewestFor_68 ?_
        refine r_iload_n dX0_fewestFor_69 rfl ?_
        refine r_iand dX0_fewestFor_70 ?_
        refine r_istore_n (ls2 := [some (vR 405), some (vI al), some (vI l2), some (vI (jand (w32 (l3 - (1 : Int))) al)), some (vI l4)]) dX0_fewestFor_71 (Nat.le_of_ble_eq_true rfl) rfl ?_
        refine r_iinc (ls2 := [some (vR 405), some (vI al), some (vI l2), some (vI (jand (w32 (l3 - (1 : Int))) al)), some (vI (w32 (l4 + (-1 : Int))))]) dX0_fewestFor_72 rfl rfl ?_
        refine r_goto (tgt := 10) dX0_fewestFor_75 rfl ?_
        exact (((h.2 c1).2 c2).1 c3)
      · refine r_aload_n dX0_fewestFor_28 rfl ?_
        refine r_getS (v := 407) dX0_fewestFor_29 kF0_15 (sh_o hS kk405 (by decide)) (sh_f hS rr405_2 (by decide)) ?_
        refine r_iload_n dX0_fewestFor_32 rfl ?_
        have ob4 := (((h.2 c1).2 c2).2 c3).1
        refine r_baload dX0_fewestFor_33 (jro_ix (sh_r hS kk407 (by decide)) ob4) ?_
        refine r_if_eq dX0_fewestFor_34 rfl (fun c5 => ?_) (fun c5 => ?_)
        · refine r_iload_n dX0_fewestFor_66 rfl ?_
          refine r_iconst dX0_fewestFor_67 (by decide) ?_
          refine r_isub dX0_fewestFor_68 ?_
          refine r_iload_n dX0_fewestFor_69 rfl ?_
          refine r_iand dX0_fewestFor_70 ?_
          refine r_istore_n (ls2 := [some (vR 405), some (vI al), some (vI l2), some (vI (jand (w32 (l3 - (1 : Int))) al)), some (vI l4)]) dX0_fewestFor_71 (Nat.le_of_ble_eq_true rfl) rfl ?_
          refine r_iinc (ls2 := [some (vR 405), some (vI al), some (vI l2), some (vI (jand (w32 (l3 - (1 : Int))) al)), some (vI (w32 (l4 + (-1 : Int))))]) dX0_fewestFor_72 rfl rfl ?_
          refine r_goto (tgt := 10) dX0_fewestFor_75 rfl ?_
          exact ((((h.2 c1).2 c2).2 c3).2.1 c5)
        · refine r_aload_n dX0_fewestFor_37 rfl ?_
          refine r_getS (v := 408) dX0_fewestFor_38 kF0_19 (sh_o hS kk405 (by decide)) (sh_f hS rr405_3 (by decide)) ?_
          refine r_iload_n dX0_fewestFor_41 rfl ?_
          refine r_iload_n dX0_fewestFor_42 rfl ?_
          refine r_ixor dX0_fewestFor_43 ?_
          refine r_invS_i dX0_fewestFor_44 (by decide) kXn0_67 kM0_67 (by decide) (Nat.le_of_ble_eq_true rfl) rfl rfl (Nat.le_of_ble_eq_true rfl) (Nat.le_of_ble_eq_true rfl) (c_at (by omega) (sh_r hS kk408 (by decide)) ⟨_, rfl, ?_⟩)
          refine r_iconst dX0_fewestFor_47 (by decide) ?_
          refine r_iadd dX0_fewestFor_48 ?_
          refine r_iload_n dX0_fewestFor_49 rfl ?_
          refine r_icmp_ge dX0_fewestFor_50 rfl (fun c6 => ?_) (fun c6 => ?_)
          · refine r_iload_n dX0_fewestFor_66 rfl ?_
            refine r_iconst dX0_fewestFor_67 (by decide) ?_
            refine r_isub dX0_fewestFor_68 ?_
            refine r_iload_n dX0_fewestFor_69 rfl ?_
            refine r_iand dX0_fewestFor_70 ?_
            refine r_istore_n (ls2 := [some (vR 405), some (vI al), some (vI l2), some (vI (jand (w32 (l3 - (1 : Int))) al)), some (vI l4)]) dX0_fewestFor_71 (Nat.le_of_ble_eq_true rfl) rfl ?_
            refine r_iinc (ls2 := [some (vR 405), some (vI al), some (vI l2), some (vI (jand (w32 (l3 - (1 : Int))) al)), some (vI (w32 (l4 + (-1 : Int))))]) dX0_fewestFor_72 rfl rfl ?_
            refine r_goto (tgt := 10) dX0_fewestFor_75 rfl ?_
            exact (((((h.2 c1).2 c2).2 c3).2.2 c5).1 c6)
          · refine r_aload_n dX0_fewestFor_53 rfl ?_
            refine r_getS (v := 408) dX0_fewestFor_54 kF0_19 (sh_o hS kk405 (by decide)) (sh_f hS rr405_3 (by decide)) ?_
            refine r_iload_n dX0_fewestFor_57 rfl ?_
            refine r_iload_n dX0_fewestFor_58 rfl ?_
            refine r_ixor dX0_fewestFor_59 ?_
            refine r_invS_i dX0_fewestFor_60 (by decide) kXn0_67 kM0_67 (by decide) (Nat.le_of_ble_eq_true rfl) rfl rfl (Nat.le_of_ble_eq_true rfl) (Nat.le_of_ble_eq_true rfl) (c_at (by omega) (sh_r hS kk408 (by decide)) ⟨_, rfl, ?_⟩)
            refine r_iconst dX0_fewestFor_63 (by decide) ?_
            refine r_iadd dX0_fewestFor_64 ?_
            refine r_istore_n (ls2 := [some (vR 405), some (vI al), some (vI (w32 ((atv M 256 408 (jxor al l3)) + (1 : Int)))), some (vI l3), some (vI l4)]) dX0_fewestFor_65 (Nat.le_of_ble_eq_true rfl) rfl ?_
            refine r_iload_n dX0_fewestFor_66 rfl ?_
            refine r_iconst dX0_fewestFor_67 (by decide) ?_
            refine r_isub dX0_fewestFor_68 ?_
            refine r_iload_n dX0_fewestFor_69 rfl ?_
            refine r_iand dX0_fewestFor_70 ?_
            refine r_istore_n (ls2 := [some (vR 405), some (vI al), some (vI (w32 ((atv M 256 408 (jxor al l3)) + (1 : Int)))), some (vI (jand (w32 (l3 - (1 : Int))) al)), some (vI l4)]) dX0_fewestFor_71 (Nat.le_of_ble_eq_true rfl) rfl ?_
            refine r_iinc (ls2 := [some (vR 405), some (vI al), some (vI (w32 ((atv M 256 408 (jxor al l3)) + (1 : Int)))), some (vI (jand (w32 (l3 - (1 : Int))) al)), some (vI (w32 (l4 + (-1 : Int))))]) dX0_fewestFor_72 rfl rfl ?_
            refine r_goto (tgt := 10) dX0_fewestFor_75 rfl ?_
            exact (((((h.2 c1).2 c2).2 c3).2.2 c5).2 c6)
theorem vp_clear {e : Nat} {M : jM} {Q : Option jV → jM → Prop}  (he : 4 ≤ e) (hS : Shp M)
  (h : ∀ N1 : jM, N1 = (si M 65 2 (0 : Int)) → Shp N1 → (Q none N1)) :
  Call (e + 1) mX5_clear [vR 65] M Q := by
  show Run (e + 1) mX5_clear 0 [some (vR 65)] [] M Q
  refine r_aload_n dX5_clear_0 rfl ?_
  refine r_iconst dX5_clear_1 (by decide) ?_
  refine r_put0 dX5_clear_2 kF5_18 (sh_o hS kk65 (by decide)) (Or.inl rfl) ?_
  have K4 : ∀ N1 : jM, N1 = (si M 65 2 (0 : Int)) → Run (e + 1) mX5_clear 5 [some (vR 65)] [] N1 Q := by
    intro N1 hN3
    have sN2 : Shp N1 := by rw [hN3]; exact hS
    exact r_vret dX5_clear_5 rfl (h N1 hN3 sN2)
  exact K4 _ rfl
theorem vp_keep {e : Nat} {M : jM} {Q : Option jV → jM → Prop} {a : Nat} (he : 4 ≤ e) (ha : isSt a = true) (hS : Shp M)
  (h : Run (e + 1) mX5_keep 12 [some (vR 65), some (vR a), some (vR (if 0 ≤ (iv M 65 1) ∧ (iv M 65 1) < 40 then rv M 66 (iv M 65 1).toNat else 0))] [] M Q) :
  Call (e + 1) mX5_keep [vR 65, vR a] M Q := by
  show Run (e + 1) mX5_keep 0 [some (vR 65), some (vR a), none] [] M Q
  refine r_aload_n dX5_keep_0 rfl ?_
  refine r_getS (v := 66) dX5_keep_1 kF5_11 (sh_o hS kk65 (by decide)) (sh_f hS rr65_0 (by decide)) ?_
  refine r_aload_n dX5_keep_4 rfl ?_
  refine r_get0 dX5_keep_5 kF5_22 (sh_o hS kk65 (by decide)) ?_
  refine r_invS_a dX5_keep_8 (by decide) kXn5_25 kM5_25 (by decide) (Nat.le_of_ble_eq_true rfl) rfl rfl (Nat.le_of_ble_eq_true rfl) (Nat.le_of_ble_eq_true rfl) (c_stateAt (by omega) (sh_r hS kk66 (by decide)) ⟨_, rfl, ?_⟩)
  refine r_astore_n (ls2 := [some (vR 65), some (vR a), some (vR (if 0 ≤ (iv M 65 1) ∧ (iv M 65 1) < 40 then rv M 66 (iv M 65 1).toNat else 0))]) dX5_keep_11 (Nat.le_of_ble_eq_true rfl) rfl ?_
  exact h
theorem vp_keep_12 {e : Nat} {M : jM} {Q : Option jV → jM → Prop} {a : Nat} {b : Nat}  (he : 4 ≤ e) (ha : isSt a = true) (hb : isSt b = true) (hS : Shp M)
  (h : Call e mX7_copyAll [vR b, vR a] M (fun r4 M2 => r4 = none ∧ Shp M2 ∧ (∀ N6 : jM, N6 = (si M2 65 1 (jrem (w32 ((iv M2 65 1) + (1 : Int))) (40 : Int))) → Shp N6 → (∀ v8 : Int, v8 = ((if (40 : Int) ≤ (iv N6 65 2) then (40 : Int) else w32 ((iv N6 65 2) + (1 : Int)))) → (∀ N9 : jM, N9 = (si N6 65 2 v8) → Shp N9 → (Q none N9)))))) :
  Run (e + 1) mX5_keep 12 [some (vR 65), some (vR a), some (vR b)] [] M Q := by
  refine r_aload_n dX5_keep_12 rfl ?_
  refine r_ifnonnull dX5_keep_13 rfl (fun _ => ?_) (fun q => absurd (by have := st_6 hb; omega) q)
  refine r_aload_n dX5_keep_17 rfl ?_
  refine r_aload_n dX5_keep_18 rfl ?_
  refine r_invV_v dX5_keep_19 kM5_29 (by decide) (Nat.le_of_ble_eq_true rfl) rfl rfl (Nat.le_of_ble_eq_true rfl) (Nat.le_of_ble_eq_true rfl) (st_o hS hb) (Call.mono h (Nat.le_refl _) ?_)
  rintro _ M2 ⟨rfl, s5, h3⟩
  refine ⟨rfl, ?_⟩
  refine r_aload_n dX5_keep_22 rfl ?_
  refine r_aload_n dX5_keep_23 rfl ?_
  refine r_get0 dX5_keep_24 kF5_22 (sh_o s5 kk65 (by decide)) ?_
  refine r_iconst dX5_keep_27 (by decide) ?_
  refine r_iadd dX5_keep_28 ?_
  refine r_bipush dX5_keep_29 (by decide) ?_
  refine r_irem dX5_keep_31 (by decide) ?_
  refine r_put0 dX5_keep_32 kF5_22 (sh_o s5 kk65 (by decide)) (Or.inl rfl) ?_
  have K12 : ∀ N6 : jM, N6 = (si M2 65 1 (jrem (w32 ((iv M2 65 1) + (1 : Int))) (40 : Int))) → Run (e + 1) mX5_keep 35 [some (vR 65), some (vR a), some (vR b)] [] N6 Q := by
    intro N6 hN11
    have sN7 : Shp N6 := by rw [hN11]; exact s5
    refine r_aload_n dX5_keep_35 rfl ?_
    refine r_aload_n dX5_keep_36 rfl ?_
    refine r_get0 dX5_keep_37 kF5_18 (sh_o sN7 kk65 (by decide)) ?_
    refine r_bipush dX5_keep_40 (by decide) ?_
    have K13 : Run (e + 1) mX5_keep 56 [some (vR 65), some (vR a), some (vR b)] [vI (if (40 : Int) ≤ (iv N6 65 2) then (40 : Int) else w32 ((iv N6 65 2) + (1 : Int))), vR 65] N6 Q := by
      have K15 : ∀ v8 : Int, v8 = ((if (40 : Int) ≤ (iv N6 65 2) then (40 : Int) else w32 ((iv N6 65 2) + (1 : Int)))) → Run (e + 1) mX5_keep 56 [some (vR 65), some (vR a), some (vR b)] [vI v8, vR 65] N6 Q := by
        intro v8 hv14
        refine r_put0 dX5_keep_56 kF5_18 (sh_o sN7 kk65 (by decide)) (Or.inl rfl) ?_
        have K17 : ∀ N9 : jM, N9 = (si N6 65 2 v8) → Run (e + 1) mX5_keep 59 [some (vR 65), some (vR a), some (vR b)] [] N9 Q := by
          intro N9 hN16
          have sN10 : Shp N9 := by rw [hN16]; exact sN7
          exact r_vret dX5_keep_59 rfl (((h3 N6 hN11 sN7) v8 hv14) N9 hN16 sN10)
        exact K17 _ rfl
      exact K15 _ rfl
    refine r_icmp_ge dX5_keep_42 rfl (fun q18 => ?_) (fun q18 => ?_)
    · rw [if_pos q18] at K13
      refine r_bipush dX5_keep_54 (by decide) ?_
      exact K13
    · rw [if_neg q18] at K13
      refine r_aload_n dX5_keep_45 rfl ?_
      refine r_get0 dX5_keep_46 kF5_18 (sh_o sN7 kk65 (by decide)) ?_
      refine r_iconst dX5_keep_49 (by decide) ?_
      refine r_iadd dX5_keep_50 ?_
      refine r_goto (tgt := 56) dX5_keep_51 rfl ?_
      exact K13
  exact K12 _ rfl
theorem vp_back {e : Nat} {M : jM} {Q : Option jV → jM → Prop} {a : Nat} (he : 4 ≤ e) (ha : isSt a = true) (hS : Shp M)
  (h : Run (e + 1) mX5_takeBack 22 [some (vR 65), some (vR a), some (vI (jrem (w32 ((w32 ((iv M 65 1) + (40 : Int))) - (1 : Int))) (40 : Int))), some (vR (if 0 ≤ (jrem (w32 ((w32 ((iv M 65 1) + (40 : Int))) - (1 : Int))) (40 : Int)) ∧ (jrem (w32 ((w32 ((iv M 65 1) + (40 : Int))) - (1 : Int))) (40 : Int)) < 40 then rv M 66 (jrem (w32 ((w32 ((iv M 65 1) + (40 : Int))) - (1 : Int))) (40 : Int)).toNat else 0))] [] M Q) :
  Call (e + 1) mX5_takeBack [vR 65, vR a] M Q := by
  show Run (e + 1) mX5_takeBack 0 [some (vR 65), some (vR a), none, none] [] M Q
  refine r_aload_n dX5_takeBack_0 rfl ?_
  refine r_get0 dX5_takeBack_1 kF5_22 (sh_o hS kk65 (by decide)) ?_
  refine r_bipush dX5_takeBack_4 (by decide) ?_
  refine r_iadd dX5_takeBack_6 ?_
  refine r_iconst dX5_takeBack_7 (by decide) ?_
  refine r_isub dX5_takeBack_8 ?_
  refine r_bipush dX5_takeBack_9 (by decide) ?_
  refine r_irem dX5_takeBack_11 (by decide) ?_
  refine r_istore_n (ls2 := [some (vR 65), some (vR a), some (vI (jrem (w32 ((w32 ((iv M 65 1) + (40 : Int))) - (1 : Int))) (40 : Int))), none]) dX5_takeBack_12 (Nat.le_of_ble_eq_true rfl) rfl ?_
  refine r_aload_n dX5_takeBack_13 rfl ?_
  refine r_getS (v := 66) dX5_takeBack_14 kF5_11 (sh_o hS kk65 (by decide)) (sh_f hS rr65_0 (by decide)) ?_
  refine r_iload_n dX5_takeBack_17 rfl ?_
  refine r_invS_a dX5_takeBack_18 (by decide) kXn5_25 kM5_25 (by decide) (Nat.le_of_ble_eq_true rfl) rfl rfl (Nat.le_of_ble_eq_true rfl) (Nat.le_of_ble_eq_true rfl) (c_stateAt (by omega) (sh_r hS kk66 (by decide)) ⟨_, rfl, ?_⟩)
  refine r_astore_n (ls2 := [some (vR 65), some (vR a), some (vI (jrem (w32 ((w32 ((iv M 65 1) + (40 : Int))) - (1 : Int))) (40 : Int))), some (vR (if 0 ≤ (jrem (w32 ((w32 ((iv M 65 1) + (40 : Int))) - (1 : Int))) (40 : Int)) ∧ (jrem (w32 ((w32 ((iv M 65 1) + (40 : Int))) - (1 : Int))) (40 : Int)) < 40 then rv M 66 (jrem (w32 ((w32 ((iv M 65 1) + (40 : Int))) - (1 : Int))) (40 : Int)).toNat else 0))]) dX5_takeBack_21 (Nat.le_of_ble_eq_true rfl) rfl ?_
  exact h
theorem vp_back_22 {e : Nat} {M : jM} {Q : Option jV → jM → Prop} {a : Nat} {i : Int} {b : Nat}  (he : 4 ≤ e) (ha : isSt a = true) (hb : isSt b = true) (hS : Shp M)
  (h : (((iv M 65 2) = (0 : Int)) → (Q (some (vI (0 : Int))) M)) ∧ (¬ ((iv M 65 2) = (0 : Int)) → (Call e mX7_copyAll [vR a, vR b] M (fun r5 M3 => r5 = none ∧ Shp M3 ∧ (∀ N7 : jM, N7 = (si M3 65 1 i) → Shp N7 → (∀ N9 : jM, N9 = (si N7 65 2 (w32 ((iv N7 65 2) - (1 : Int)))) → Shp N9 → (Q (some (vI (1 : Int))) N9))))))) :
  Run (e + 1) mX5_takeBack 22 [some (vR 65), some (vR a), some (vI i), some (vR b)] [] M Q := by
  refine r_aload_n dX5_takeBack_22 rfl ?_
  refine r_get0 dX5_takeBack_23 kF5_18 (sh_o hS kk65 (by decide)) ?_
  refine r_if_eq dX5_takeBack_26 rfl (fun c1 => ?_) (fun c1 => ?_)
  · refine r_iconst dX5_takeBack_33 (by decide) ?_
    exact r_zret dX5_takeBack_34 rfl (by decide) (h.1 c1)
  · refine r_aload_n dX5_takeBack_29 rfl ?_
    refine r_ifnonnull dX5_takeBack_30 rfl (fun _ => ?_) (fun q => absurd (by have := st_6 hb; omega) q)
    refine r_aload_n dX5_takeBack_35 rfl ?_
    refine r_aload_n dX5_takeBack_36 rfl ?_
    refine r_invV_v dX5_takeBack_37 kM5_29 (by decide) (Nat.le_of_ble_eq_true rfl) rfl rfl (Nat.le_of_ble_eq_true rfl) (Nat.le_of_ble_eq_true rfl) (st_o hS ha) (Call.mono (h.2 c1) (Nat.le_refl _) ?_)
    rintro _ M3 ⟨rfl, s6, h4⟩
    refine ⟨rfl, ?_⟩
    refine r_aload_n dX5_takeBack_40 rfl ?_
    refine r_iload_n dX5_takeBack_41 rfl ?_
    refine r_put0 dX5_takeBack_42 kF5_22 (sh_o s6 kk65 (by decide)) (Or.inl rfl) ?_
    have K12 : ∀ N7 : jM, N7 = (si M3 65 1 i) → Run (e + 1) mX5_takeBack 45 [some (vR 65), some (vR a), some (vI i), some (vR b)] [] N7 Q := by
      intro N7 hN11
      have sN8 : Shp N7 := by rw [hN11]; exact s6
      refine r_aload_n dX5_takeBack_45 rfl ?_
      refine r_dupR dX5_takeBack_46 ?_
      refine r_get0 dX5_takeBack_47 kF5_18 (sh_o sN8 kk65 (by decide)) ?_
      refine r_iconst dX5_takeBack_50 (by decide) ?_
      refine r_isub dX5_takeBack_51 ?_
      refine r_put0 dX5_takeBack_52 kF5_18 (sh_o sN8 kk65 (by decide)) (Or.inl rfl) ?_
      have K14 : ∀ N9 : jM, N9 = (si N7 65 2 (w32 ((iv N7 65 2) - (1 : Int)))) → Run (e + 1) mX5_takeBack 55 [some (vR 65), some (vR a), some (vI i), some (vR b)] [] N9 Q := by
        intro N9 hN13
        have sN10 : Shp N9 := by rw [hN13]; exact sN8
        refine r_iconst dX5_takeBack_55 (by decide) ?_
        exact r_zret dX5_takeBack_56 rfl (by decide) ((h4 N7 hN11 sN8) N9 hN13 sN10)
      exact K14 _ rfl
    exact K12 _ rfl
theorem vt_parts {e : Nat} {M : jM} {Q : Option jV → jM → Prop} {a : Nat} {p : Int} {n : Int} {ch : Int} (he : 4 ≤ e) (ha : isSt a = true) (hS : Shp M)
  (h : Run (e + 1) mX9_partsThatFloat 11 [some (vR 409), some (vR a), some (vR 29), some (vI p), some (vI n), some (vI ch), some (vR (if 0 ≤ n ∧ n < 7 then rv M 410 (n).toNat else 0))] [] M Q) :
  Call (e + 1) mX9_partsThatFloat [vR 409, vR a, vR 29, vI p, vI n, vI ch] M Q := by
  show Run (e + 1) mX9_partsThatFloat 0 [some (vR 409), some (vR a), some (vR 29), some (vI p), some (vI n), some (vI ch), none] [] M Q
  refine r_aload_n dX9_partsThatFloat_0 rfl ?_
  refine r_getS (v := 410) dX9_partsThatFloat_1 kF9_11 (sh_o hS kk409 (by decide)) (sh_f hS rr409_0 (by decide)) ?_
  refine r_iload dX9_partsThatFloat_4 rfl ?_
  refine r_invS_a dX9_partsThatFloat_6 (by decide) kXn9_18 kM9_18 (by decide) (Nat.le_of_ble_eq_true rfl) rfl rfl (Nat.le_of_ble_eq_true rfl) (Nat.le_of_ble_eq_true rfl) (c_stateAt (by omega) (sh_r hS kk410 (by decide)) ⟨_, rfl, ?_⟩)
  refine r_astore (ls2 := [some (vR 409), some (vR a), some (vR 29), some (vI p), some (vI n), some (vI ch), some (vR (if 0 ≤ n ∧ n < 7 then rv M 410 (n).toNat else 0))]) dX9_partsThatFloat_9 (Nat.le_of_ble_eq_true rfl) rfl ?_
  exact h
theorem vt_parts_11 {e : Nat} {M : jM} {Q : Option jV → jM → Prop} {a : Nat} {p : Int} {n : Int} {ch : Int} {b : Nat}  (he : 4 ≤ e) (ha : isSt a = true) (hb : isSt b = true) (hS : Shp M)
  (h : Call e mX7_copyMinds [vR b, vR a] M (fun r4 M2 => r4 = none ∧ Shp M2 ∧ (Call e mX9_floating [vR 410, vR 29, vI p, vI n, vI ch, vL (1000000000 : Int)] M2 (fun r9 M7 => ∃ z6 : Int, r9 = some (vL z6) ∧ Shp M7 ∧ (Q (some (vL z6)) M7))))) :
  Run (e + 1) mX9_partsThatFloat 11 [some (vR 409), some (vR a), some (vR 29), some (vI p), some (vI n), some (vI ch), some (vR b)] [] M Q := by
  refine r_aload dX9_partsThatFloat_11 rfl ?_
  refine r_ifnonnull dX9_partsThatFloat_13 rfl (fun _ => ?_) (fun q => absurd (by have := st_6 hb; omega) q)
  refine r_aload dX9_partsThatFloat_18 rfl ?_
  refine r_aload_n dX9_partsThatFloat_20 rfl ?_
  refine r_invV_v dX9_partsThatFloat_21 kM9_22 (by decide) (Nat.le_of_ble_eq_true rfl) rfl rfl (Nat.le_of_ble_eq_true rfl) (Nat.le_of_ble_eq_true rfl) (st_o hS hb) (Call.mono h (Nat.le_refl _) ?_)
  rintro _ M2 ⟨rfl, s5, h3⟩
  refine ⟨rfl, ?_⟩
  refine r_aload_n dX9_partsThatFloat_24 rfl ?_
  refine r_getS (v := 410) dX9_partsThatFloat_25 kF9_11 (sh_o s5 kk409 (by decide)) (sh_f s5 rr409_0 (by decide)) ?_
  refine r_aload_n dX9_partsThatFloat_28 rfl ?_
  refine r_iload_n dX9_partsThatFloat_29 rfl ?_
  refine r_iload dX9_partsThatFloat_30 rfl ?_
  refine r_iload dX9_partsThatFloat_32 rfl ?_
  refine r_ldc2 dX9_partsThatFloat_34 kL9_26 ?_
  refine r_invS_l dX9_partsThatFloat_37 (by decide) kXn9_28 kM9_28 (by decide) (Nat.le_of_ble_eq_true rfl) rfl rfl (Nat.le_of_ble_eq_true rfl) (Nat.le_of_ble_eq_true rfl) (Call.mono h3 (Nat.le_refl _) ?_)
  rintro _ M7 ⟨z6, rfl, s10, h8⟩
  refine ⟨_, rfl, ?_⟩
  exact r_lret dX9_partsThatFloat_40 rfl h8
theorem vt_fl {e : Nat} {M : jM} {Q : Option jV → jM → Prop} {p : Int} {lf : Int} {ch : Int} {pt : Int} (he : 4 ≤ e) (hS : Shp M)
  (h : Run (e + 1) mX9_floating 7 [some (vR 410), some (vR 29), some (vI p), some (vI lf), some (vI ch), some (vL pt), none, some (vR (if 0 ≤ lf ∧ lf < 7 then rv M 410 (lf).toNat else 0)), none, none, none, none, none] [] M Q) :
  Call (e + 1) mX9_floating [vR 410, vR 29, vI p, vI lf, vI ch, vL pt] M Q := by
  show Run (e + 1) mX9_floating 0 [some (vR 410), some (vR 29), some (vI p), some (vI lf), some (vI ch), some (vL pt), none, none, none, none, none, none, none] [] M Q
  refine r_aload_n dX9_floating_0 rfl ?_
  refine r_iload_n dX9_floating_1 rfl ?_
  refine r_invS_a dX9_floating_2 (by decide) kXn9_18 kM9_18 (by decide) (Nat.le_of_ble_eq_true rfl) rfl rfl (Nat.le_of_ble_eq_true rfl) (Nat.le_of_ble_eq_true rfl) (c_stateAt (by omega) (sh_r hS kk410 (by decide)) ⟨_, rfl, ?_⟩)
  refine r_astore (ls2 := [some (vR 410), some (vR 29), some (vI p), some (vI lf), some (vI ch), some (vL pt), none, some (vR (if 0 ≤ lf ∧ lf < 7 then rv M 410 (lf).toNat else 0)), none, none, none, none, none]) dX9_floating_5 (Nat.le_of_ble_eq_true rfl) rfl ?_
  exact h
theorem vt_fl_7 {e : Nat} {M : jM} {Q : Option jV → jM → Prop} {p : Int} {lf : Int} {ch : Int} {pt : Int} {a : Nat}  (he : 4 ≤ e) (ha : isSt a = true) (hS : Shp M)
  (h : (((jcmp pt (0 : Int)) ≠ (0 : Int)) → (Call e mX1_weigh [vR 29, vR a] M (fun r5 M3 => r5 = none ∧ Shp M3 ∧ (((lf ≠ (0 : Int)) → (Run (e + 1) mX9_floating 56 [some (vR 410), some (vR 29), some (vI p), some (vI lf), some (vI ch), some (vL pt), none, some (vR a), some (vR (if 0 ≤ (w32 (lf - (1 : Int))) ∧ (w32 (lf - (1 : Int))) < 7 then rv M3 410 (w32 (lf - (1 : Int))).toNat else 0)), none, none, none, none] [] M3 Q)) ∧ (¬ (lf ≠ (0 : Int)) → (Call e mX7_floats [vR a, vI p] M3 (fun r11 M9 => ∃ z8 : Int, r11 = some (vI z8) ∧ Shp M9 ∧ (Q (some (vL (if z8 = (0 : Int) then (0 : Int) else pt))) M9)))))))) ∧ (¬ ((jcmp pt (0 : Int)) ≠ (0 : Int)) → (Q (some (vL (0 : Int))) M))) :
  Run (e + 1) mX9_floating 7 [some (vR 410), some (vR 29), some (vI p), some (vI lf), some (vI ch), some (vL pt), none, some (vR a), none, none, none, none, none] [] M Q := by
  refine r_aload dX9_floating_7 rfl ?_
  refine r_ifnull dX9_floating_9 rfl (fun q => absurd q (by have := st_6 ha; omega)) (fun _ => ?_)
  refine r_lload dX9_floating_12 rfl ?_
  refine r_lconst0 dX9_floating_14 ?_
  refine r_lcmp dX9_floating_15 ?_
  refine r_if_ne dX9_floating_16 rfl (fun c1 => ?_) (fun c1 => ?_)
  · refine r_aload_n dX9_floating_21 rfl ?_
    refine r_aload dX9_floating_22 rfl ?_
    refine r_invV_v dX9_floating_24 kM9_32 (by decide) (Nat.le_of_ble_eq_true rfl) rfl rfl (Nat.le_of_ble_eq_true rfl) (Nat.le_of_ble_eq_true rfl) (sh_o hS kk29 (by decide)) (Call.mono (h.1 c1) (Nat.le_refl _) ?_)
    rintro _ M3 ⟨rfl, s6, h4⟩
    refine ⟨rfl, ?_⟩
    refine r_iload_n dX9_floating_27 rfl ?_
    refine r_if_ne dX9_floating_28 rfl (fun c7 => ?_) (fun c7 => ?_)
    · refine r_aload_n dX9_floating_47 rfl ?_
      refine r_iload_n dX9_floating_48 rfl ?_
      refine r_iconst dX9_floating_49 (by decide) ?_
      refine r_isub dX9_floating_50 ?_
      refine r_invS_a dX9_floating_51 (by decide) kXn9_18 kM9_18 (by decide) (Nat.le_of_ble_eq_true rfl) rfl rfl (Nat.le_of_ble_eq_true rfl) (Nat.le_of_ble_eq_true rfl) (c_stateAt (by omega) (sh_r s6 kk410 (by decide)) ⟨_, rfl, ?_⟩)
      refine r_astore (ls2 := [some (vR 410), some (vR 29), some (vI p), some (vI lf), some (vI ch), some (vL pt), none, some (vR a), some (vR (if 0 ≤ (w32 (lf - (1 : Int))) ∧ (w32 (lf - (1 : Int))) < 7 then rv M3 410 (w32 (lf - (1 : Int))).toNat else 0)), none, none, none, none]) dX9_floating_54 (Nat.le_of_ble_eq_true rfl) rfl ?_
      exact (h4.1 c7)
    · refine r_aload dX9_floating_31 rfl ?_
      refine r_iload_n dX9_floating_33 rfl ?_
      refine r_invV_i dX9_floating_34 kM9_37 (by decide) (Nat.le_of_ble_eq_true rfl) rfl rfl (Nat.le_of_ble_eq_true rfl) (Nat.le_of_ble_eq_true rfl) (st_o s6 ha) (Call.mono (h4.2 c7) (Nat.le_refl _) ?_)
      rintro _ M9 ⟨z8, rfl, s12, h10⟩
      refine ⟨_, rfl, ?_⟩
      have K13 : Run (e + 1) mX9_floating 46 [some (vR 410), some (vR 29), some (vI p), some (vI lf), some (vI ch), some (vL pt), none, some (vR a), none, none, none, none, none] [vL (if z8 = (0 : Int) then (0 : Int) else pt)] M9 Q := by
        exact r_lret dX9_floating_46 rfl h10
      refine r_if_eq dX9_floating_37 rfl (fun q14 => ?_) (fun q14 => ?_)
      · rw [if_pos q14] at K13
        refine r_lconst0 dX9_floating_45 ?_
        exact K13
      · rw [if_neg q14] at K13
        refine r_lload dX9_floating_40 rfl ?_
        refine r_goto (tgt := 46) dX9_floating_42 rfl ?_
        exact K13
  · refine r_lconst0 dX9_floating_19 ?_
    exact r_lret dX9_floating_20 rfl (h.2 c1)
theorem vt_fl_56 {e : Nat} {M : jM} {Q : Option jV → jM → Prop} {p : Int} {lf : Int} {ch : Int} {pt : Int} {a : Nat} {b : Nat}  (he : 4 ≤ e) (ha : isSt a = true) (hb : isSt b = true) (hS : Shp M)
  (h : Call e mX7_copyMinds [vR b, vR a] M (fun r4 M2 => r4 = none ∧ Shp M2 ∧ (Call e mX7_passHour [vR b] M2 (fun r9 M7 => r9 = none ∧ Shp M7 ∧ (Call e mX9_floating [vR 410, vR 29, vI p, vI (w32 (lf - (1 : Int))), vI ch, vL (w64 (pt - (jdivL (w64 (pt * ch)) (100 : Int))))] M7 (fun r14 M12 => ∃ z11 : Int, r14 = some (vL z11) ∧ Shp M12 ∧ (Call e mX7_copyMinds [vR b, vR a] M12 (fun r19 M17 => r19 = none ∧ Shp M17 ∧ (Call e mX7_renewTunesOf [vR b, vI p] M17 (fun r24 M22 => r24 = none ∧ Shp M22 ∧ (Call e mX1_weigh [vR 29, vR b] M22 (fun r29 M27 => r29 = none ∧ Shp M27 ∧ (Call e mX7_passHour [vR b] M27 (fun r34 M32 => r34 = none ∧ Shp M32 ∧ (Call e mX9_floating [vR 410, vR 29, vI p, vI (w32 (lf - (1 : Int))), vI ch, vL (jdivL (w64 (pt * ch)) (100 : Int))] M32 (fun r39 M37 => ∃ z36 : Int, r39 = some (vL z36) ∧ Shp M37 ∧ (Q (some (vL (w64 (z11 + z36)))) M37))))))))))))))))) :
  Run (e + 1) mX9_floating 56 [some (vR 410), some (vR 29), some (vI p), some (vI lf), some (vI ch), some (vL pt), none, some (vR a), some (vR b), none, none, none, none] [] M Q := by
  refine r_aload dX9_floating_56 rfl ?_
  refine r_ifnonnull dX9_floating_58 rfl (fun _ => ?_) (fun q => absurd (by have := st_6 hb; omega) q)
  refine r_lload dX9_floating_63 rfl ?_
  refine r_iload dX9_floating_65 rfl ?_
  refine r_i2l dX9_floating_67 ?_
  refine r_lmul dX9_floating_68 ?_
  refine r_ldc2 dX9_floating_69 kL9_41 ?_
  refine r_ldiv dX9_floating_72 (by decide) ?_
  refine r_lstore (ls2 := [some (vR 410), some (vR 29), some (vI p), some (vI lf), some (vI ch), some (vL pt), none, some (vR a), some (vR b), some (vL (jdivL (w64 (pt * ch)) (100 : Int))), none, none, none]) dX9_floating_73 (Nat.le_of_ble_eq_true rfl) rfl ?_
  refine r_aload dX9_floating_75 rfl ?_
  refine r_aload dX9_floating_77 rfl ?_
  refine r_invV_v dX9_floating_79 kM9_22 (by decide) (Nat.le_of_ble_eq_true rfl) rfl rfl (Nat.le_of_ble_eq_true rfl) (Nat.le_of_ble_eq_true rfl) (st_o hS hb) (Call.mono h (Nat.le_refl _) ?_)
  rintro _ M2 ⟨rfl, s5, h3⟩
  refine ⟨rfl, ?_⟩
  refine r_aload dX9_floating_82 rfl ?_
  refine r_invV_v dX9_floating_84 kM9_43 (by decide) (Nat.le_of_ble_eq_true rfl) rfl rfl (Nat.le_of_ble_eq_true rfl) (Nat.le_of_ble_eq_true rfl) (st_o s5 hb) (Call.mono h3 (Nat.le_refl _) ?_)
  rintro _ M7 ⟨rfl, s10, h8⟩
  refine ⟨rfl, ?_⟩
  refine r_aload_n dX9_floating_87 rfl ?_
  refine r_aload_n dX9_floating_88 rfl ?_
  refine r_iload_n dX9_floating_89 rfl ?_
  refine r_iload_n dX9_floating_90 rfl ?_
  refine r_iconst dX9_floating_91 (by decide) ?_
  refine r_isub dX9_floating_92 ?_
  refine r_iload dX9_floating_93 rfl ?_
  refine r_lload dX9_floating_95 rfl ?_
  refine r_lload dX9_floating_97 rfl ?_
  refine r_lsub dX9_floating_99 ?_
  refine r_invS_l dX9_floating_100 (by decide) kXn9_28 kM9_28 (by decide) (Nat.le_of_ble_eq_true rfl) rfl rfl (Nat.le_of_ble_eq_true rfl) (Nat.le_of_ble_eq_true rfl) (Call.mono h8 (Nat.le_refl _) ?_)
  rintro _ M12 ⟨z11, rfl, s15, h13⟩
  refine ⟨_, rfl, ?_⟩
  refine r_lstore (ls2 := [some (vR 410), some (vR 29), some (vI p), some (vI lf), some (vI ch), some (vL pt), none, some (vR a), some (vR b), some (vL (jdivL (w64 (pt * ch)) (100 : Int))), none, some (vL z11), none]) dX9_floating_103 (Nat.le_of_ble_eq_true rfl) rfl ?_
  refine r_aload dX9_floating_105 rfl ?_
  refine r_aload dX9_floating_107 rfl ?_
  refine r_invV_v dX9_floating_109 kM9_22 (by decide) (Nat.le_of_ble_eq_true rfl) rfl rfl (Nat.le_of_ble_eq_true rfl) (Nat.le_of_ble_eq_true rfl) (st_o s15 hb) (Call.mono h13 (Nat.le_refl _) ?_)
  rintro _ M17 ⟨rfl, s20, h18⟩
  refine ⟨rfl, ?_⟩
  refine r_aload dX9_floating_112 rfl ?_
  refine r_iload_n dX9_floating_114 rfl ?_
  refine r_invV_v dX9_floating_115 kM9_46 (by decide) (Nat.le_of_ble_eq_true rfl) rfl rfl (Nat.le_of_ble_eq_true rfl) (Nat.le_of_ble_eq_true rfl) (st_o s20 hb) (Call.mono h18 (Nat.le_refl _) ?_)
  rintro _ M22 ⟨rfl, s25, h23⟩
  refine ⟨rfl, ?_⟩
  refine r_aload_n dX9_floating_118 rfl ?_
  refine r_aload dX9_floating_119 rfl ?_
  refine r_invV_v dX9_floating_121 kM9_32 (by decide) (Nat.le_of_ble_eq_true rfl) rfl rfl (Nat.le_of_ble_eq_true rfl) (Nat.le_of_ble_eq_true rfl) (sh_o s25 kk29 (by decide)) (Call.mono h23 (Nat.le_refl _) ?_)
  rintro _ M27 ⟨rfl, s30, h28⟩
  refine ⟨rfl, ?_⟩
  refine r_aload dX9_floating_124 rfl ?_
  refine r_invV_v dX9_floating_126 kM9_43 (by decide) (Nat.le_of_ble_eq_true rfl) rfl rfl (Nat.le_of_ble_eq_true rfl) (Nat.le_of_ble_eq_true rfl) (st_o s30 hb) (Call.mono h28 (Nat.le_refl _) ?_)
  rintro _ M32 ⟨rfl, s35, h33⟩
  refine ⟨rfl, ?_⟩
  refine r_lload dX9_floating_129 rfl ?_
  refine r_aload_n dX9_floating_131 rfl ?_
  refine r_aload_n dX9_floating_132 rfl ?_
  refine r_iload_n dX9_floating_133 rfl ?_
  refine r_iload_n dX9_floating_134 rfl ?_
  refine r_iconst dX9_floating_135 (by decide) ?_
  refine r_isub dX9_floating_136 ?_
  refine r_iload dX9_floating_137 rfl ?_
  refine r_lload dX9_floating_139 rfl ?_
  refine r_invS_l dX9_floating_141 (by decide) kXn9_28 kM9_28 (by decide) (Nat.le_of_ble_eq_true rfl) rfl rfl (Nat.le_of_ble_eq_true rfl) (Nat.le_of_ble_eq_true rfl) (Call.mono h33 (Nat.le_refl _) ?_)
  rintro _ M37 ⟨z36, rfl, s40, h38⟩
  refine ⟨_, rfl, ?_⟩
  refine r_ladd dX9_floating_144 ?_
  exact r_lret dX9_floating_145 rfl h38
