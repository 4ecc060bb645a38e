/-! VC lemmas of the model's readers -/
theorem vn_bad {e : Nat} {M : jM} {Q : Option jV → jM → Prop}  (he : 1 ≤ e) (hS : Shp M)
  (h : ∀ N1 : jM, N1 = (si M 468 4 (if (iv M 468 4) ≠ (-1 : Int) then iv M 468 4 else iv M 468 3)) → Shp N1 → (Q none N1)) :
  Call (e + 1) mX11_bad [vR 468] M Q := by
  show Run (e + 1) mX11_bad 0 [some (vR 468)] [] M Q
  refine r_aload_n dX11_bad_0 rfl ?_
  refine r_aload_n dX11_bad_1 rfl ?_
  refine r_get0 dX11_bad_2 kF11_126 (sh_o hS kk468 (by decide)) ?_
  refine r_iconst dX11_bad_5 (by decide) ?_
  have K3 : Run (e + 1) mX11_bad 20 [some (vR 468)] [vI (if (iv M 468 4) ≠ (-1 : Int) then iv M 468 4 else iv M 468 3), vR 468] M Q := by
    refine r_put0 dX11_bad_20 kF11_126 (sh_o hS kk468 (by decide)) (Or.inl rfl) ?_
    have K5 : ∀ N1 : jM, N1 = (si M 468 4 (if (iv M 468 4) ≠ (-1 : Int) then iv M 468 4 else iv M 468 3)) → Run (e + 1) mX11_bad 23 [some (vR 468)] [] N1 Q := by
      intro N1 hN4
      have sN2 : Shp N1 := by rw [hN4]; exact hS
      exact r_vret dX11_bad_23 rfl (h N1 hN4 sN2)
    exact K5 _ rfl
  refine r_icmp_ne dX11_bad_6 rfl (fun q6 => ?_) (fun q6 => ?_)
  · rw [if_pos q6] at K3
    refine r_aload_n dX11_bad_16 rfl ?_
    refine r_get0 dX11_bad_17 kF11_126 (sh_o hS kk468 (by decide)) ?_
    exact K3
  · rw [if_neg q6] at K3
    refine r_aload_n dX11_bad_9 rfl ?_
    refine r_get0 dX11_bad_10 kF11_119 (sh_o hS kk468 (by decide)) ?_
    refine r_goto (tgt := 20) dX11_bad_13 rfl ?_
    exact K3
section MRead0
variable {d : Nat} {M : jM} {Q : Option jV → jM → Prop}
theorem m_bad (hd : 2 ≤ d) (hS : Shp M) (h : Q none (si M 468 4 (if iv M 468 4 = -1 then iv M 468 3 else iv M 468 4))) : Call d mX11_bad [vR 468] M Q := by
  obtain ⟨e, rfl⟩ := dd (d := d) (by omega)
  refine vn_bad (by omega) hS (fun N hN _ => ?_)
  rw [hN]
  refine (congrArg (fun z => Q none (si M 468 4 z)) ?_).mp h
  by_cases c : iv M 468 4 = -1
  · rw [if_pos c, if_neg (fun q => q c)]
  · rw [if_neg c, if_pos c]
theorem m_here (hd : 2 ≤ d) (hS : Shp M) (hb : 0 ≤ iv M 468 3 ∧ iv M 468 2 ≤ 240) (h : Q (some (vI (if iv M 468 2 ≤ iv M 468 3 then -1 else iv M 469 (iv M 468 3).toNat))) M) : Call d mX11_here [vR 468] M Q := by
  obtain ⟨e, rfl⟩ := dd (d := d) (by omega)
  refine vn_here (by omega) hS ⟨fun c => ?_, fun c => ⟨⟨hb.1, by omega⟩, ?_⟩⟩
  · rw [if_pos c] at h; exact h
  · rw [if_neg c] at h; exact h
end MRead0
theorem vn_feed {e : Nat} {M : jM} {Q : Option jV → jM → Prop} {x : Int} {y : Int} {z : Int} {u : Int} {v : Int} (he : 6 ≤ e) (hS : Shp M)
  (h : Run (e + 1) mX11_feed 6 [some (vR 468), some (vI x), some (vI y), some (vI z), some (vI u), some (vI v), some (vI (0 : Int)), some (vI (0 : Int)), none] [] M Q) :
  Call (e + 1) mX11_feed [vR 468, vI x, vI y, vI z, vI u, vI v] M Q := by
  show Run (e + 1) mX11_feed 0 [some (vR 468), some (vI x), some (vI y), some (vI z), some (vI u), some (vI v), none, none, none] [] M Q
  refine r_iconst dX11_feed_0 (by decide) ?_
  refine r_istore (ls2 := [some (vR 468), some (vI x), some (vI y), some (vI z), some (vI u), some (vI v), some (vI (0 : Int)), none, none]) dX11_feed_1 (Nat.le_of_ble_eq_true rfl) rfl ?_
  refine r_iconst dX11_feed_3 (by decide) ?_
  refine r_istore (ls2 := [some (vR 468), some (vI x), some (vI y), some (vI z), some (vI u), some (vI v), some (vI (0 : Int)), some (vI (0 : Int)), none]) dX11_feed_4 (Nat.le_of_ble_eq_true rfl) rfl ?_
  exact h
theorem vn_feed_6 {e : Nat} {M : jM} {Q : Option jV → jM → Prop} {x : Int} {y : Int} {z : Int} {u : Int} {v : Int} {l6 : Int} {l7 : Int} {l8 : Option jV}  (he : 6 ≤ e) (hS : Shp M)
  (h : (((20 : Int) ≤ l7) → ((((w32 ((iv M 468 2) + l6)) ≤ (240 : Int)) → (Run (e + 1) mX11_feed 62 [some (vR 468), some (vI x), some (vI y), some (vI z), some (vI u), some (vI v), some (vI l6), some (vI (0 : Int)), l8] [] M Q)) ∧ (¬ ((w32 ((iv M 468 2) + l6)) ≤ (240 : Int)) → (Q (some (vI (-1 : Int))) M)))) ∧ (¬ ((20 : Int) ≤ l7) → (Call e mX11_byteOf [vI x, vI y, vI z, vI u, vI v, vI l7] M (fun r6 M4 => ∃ z3 : Int, r6 = some (vI z3) ∧ Shp M4 ∧ (Run (e + 1) mX11_feed 6 [some (vR 468), some (vI x), some (vI y), some (vI z), some (vI u), some (vI v), some (vI (w32 (l6 + (if z3 = (0 : Int) then (0 : Int) else (1 : Int))))), some (vI (w32 (l7 + (1 : Int)))), l8] [] M4 Q))))) :
  Run (e + 1) mX11_feed 6 [some (vR 468), some (vI x), some (vI y), some (vI z), some (vI u), some (vI v), some (vI l6), some (vI l7), l8] [] M Q := by
  refine r_iload dX11_feed_6 rfl ?_
  refine r_bipush dX11_feed_8 (by decide) ?_
  refine r_icmp_ge dX11_feed_10 rfl (fun c1 => ?_) (fun c1 => ?_)
  · refine r_aload_n dX11_feed_44 rfl ?_
    refine r_get0 dX11_feed_45 kF11_116 (sh_o hS kk468 (by decide)) ?_
    refine r_iload dX11_feed_48 rfl ?_
    refine r_iadd dX11_feed_50 ?_
    refine r_sipush dX11_feed_51 (by decide) ?_
    refine r_icmp_le dX11_feed_54 rfl (fun c2 => ?_) (fun c2 => ?_)
    · refine r_iconst dX11_feed_59 (by decide) ?_
      refine r_istore (ls2 := [some (vR 468), some (vI x), some (vI y), some (vI z), some (vI u), some (vI v), some (vI l6), some (vI (0 : Int)), l8]) dX11_feed_60 (Nat.le_of_ble_eq_true rfl) rfl ?_
      exact ((h.1 c1).1 c2)
    · refine r_iconst dX11_feed_57 (by decide) ?_
      exact r_iret dX11_feed_58 rfl ((h.1 c1).2 c2)
  · refine r_iload dX11_feed_13 rfl ?_
    refine r_iload_n dX11_feed_15 rfl ?_
    refine r_iload_n dX11_feed_16 rfl ?_
    refine r_iload_n dX11_feed_17 rfl ?_
    refine r_iload dX11_feed_18 rfl ?_
    refine r_iload dX11_feed_20 rfl ?_
    refine r_iload dX11_feed_22 rfl ?_
    refine r_invS_i dX11_feed_24 (by decide) kXn11_112 kM11_112 (by decide) (Nat.le_of_ble_eq_true rfl) rfl rfl (Nat.le_of_ble_eq_true rfl) (Nat.le_of_ble_eq_true rfl) (Call.mono (h.2 c1) (Nat.le_refl _) ?_)
    rintro _ M4 ⟨z3, rfl, s7, h5⟩
    refine ⟨_, rfl, ?_⟩
    have K8 : Run (e + 1) mX11_feed 35 [some (vR 468), some (vI x), some (vI y), some (vI z), some (vI u), some (vI v), some (vI l6), some (vI l7), l8] [vI (if z3 = (0 : Int) then (0 : Int) else (1 : Int)), vI l6] M4 Q := by
      refine r_iadd dX11_feed_35 ?_
      refine r_istore (ls2 := [some (vR 468), some (vI x), some (vI y), some (vI z), some (vI u), some (vI v), some (vI (w32 (l6 + (if z3 = (0 : Int) then (0 : Int) else (1 : Int))))), some (vI l7), l8]) dX11_feed_36 (Nat.le_of_ble_eq_true rfl) rfl ?_
      refine r_iinc (ls2 := [some (vR 468), some (vI x), some (vI y), some (vI z), some (vI u), some (vI v), some (vI (w32 (l6 + (if z3 = (0 : Int) then (0 : Int) else (1 : Int))))), some (vI (w32 (l7 + (1 : Int)))), l8]) dX11_feed_38 rfl rfl ?_
      refine r_goto (tgt := 6) dX11_feed_41 rfl ?_
      exact h5
    refine r_if_eq dX11_feed_27 rfl (fun q9 => ?_) (fun q9 => ?_)
    · rw [if_pos q9] at K8
      refine r_iconst dX11_feed_34 (by decide) ?_
      exact K8
    · rw [if_neg q9] at K8
      refine r_iconst dX11_feed_30 (by decide) ?_
      refine r_goto (tgt := 35) dX11_feed_31 rfl ?_
      exact K8
theorem vn_feed_62 {e : Nat} {M : jM} {Q : Option jV → jM → Prop} {x : Int} {y : Int} {z : Int} {u : Int} {v : Int} {l6 : Int} {l7 : Int} {l8 : Option jV}  (he : 6 ≤ e) (hS : Shp M)
  (h : (((20 : Int) ≤ l7) → (Q (some (vI (iv M 468 2))) M)) ∧ (¬ ((20 : Int) ≤ l7) → (Call e mX11_byteOf [vI x, vI y, vI z, vI u, vI v, vI l7] M (fun r15 M13 => ∃ z12 : Int, r15 = some (vI z12) ∧ Shp M13 ∧ (((z12 = (0 : Int)) → (Run (e + 1) mX11_feed 62 [some (vR 468), some (vI x), some (vI y), some (vI z), some (vI u), some (vI v), some (vI l6), some (vI (w32 (l7 + (1 : Int)))), some (vI z12)] [] M13 Q)) ∧ (¬ (z12 = (0 : Int)) → ((0 ≤ (iv M13 468 2) ∧ (iv M13 468 2) < 240) ∧ (∀ N19 : jM, N19 = (si M13 469 (iv M13 468 2).toNat z12) → Shp N19 → (∀ N21 : jM, N21 = (si N19 468 2 (w32 ((iv N19 468 2) + (1 : Int)))) → Shp N21 → (Run (e + 1) mX11_feed 62 [some (vR 468), some (vI x), some (vI y), some (vI z), some (vI u), some (vI v), some (vI l6), some (vI (w32 (l7 + (1 : Int)))), some (vI z12)] [] N21 Q)))))))))) :
  Run (e + 1) mX11_feed 62 [some (vR 468), some (vI x), some (vI y), some (vI z), some (vI u), some (vI v), some (vI l6), some (vI l7), l8] [] M Q := by
  refine r_iload dX11_feed_62 rfl ?_
  refine r_bipush dX11_feed_64 (by decide) ?_
  refine r_icmp_ge dX11_feed_66 rfl (fun c11 => ?_) (fun c11 => ?_)
  · refine r_aload_n dX11_feed_115 rfl ?_
    refine r_get0 dX11_feed_116 kF11_116 (sh_o hS kk468 (by decide)) ?_
    exact r_iret dX11_feed_119 rfl (h.1 c11)
  · refine r_iload_n dX11_feed_69 rfl ?_
    refine r_iload_n dX11_feed_70 rfl ?_
    refine r_iload_n dX11_feed_71 rfl ?_
    refine r_iload dX11_feed_72 rfl ?_
    refine r_iload dX11_feed_74 rfl ?_
    refine r_iload dX11_feed_76 rfl ?_
    refine r_invS_i dX11_feed_78 (by decide) kXn11_112 kM11_112 (by decide) (Nat.le_of_ble_eq_true rfl) rfl rfl (Nat.le_of_ble_eq_true rfl) (Nat.le_of_ble_eq_true rfl) (Call.mono (h.2 c11) (Nat.le_refl _) ?_)
    rintro _ M13 ⟨z12, rfl, s16, h14⟩
    refine ⟨_, rfl, ?_⟩
    refine r_istore (ls2 := [some (vR 468), some (vI x), some (vI y), some (vI z), some (vI u), some (vI v), some (vI l6), some (vI l7), some (vI z12)]) dX11_feed_81 (Nat.le_of_ble_eq_true rfl) rfl ?_
    refine r_iload dX11_feed_83 rfl ?_
    refine r_if_eq dX11_feed_85 rfl (fun c17 => ?_) (fun c17 => ?_)
    · refine r_iinc (ls2 := [some (vR 468), some (vI x), some (vI y), some (vI z), some (vI u), some (vI v), some (vI l6), some (vI (w32 (l7 + (1 : Int)))), some (vI z12)]) dX11_feed_109 rfl rfl ?_
      refine r_goto (tgt := 62) dX11_feed_112 rfl ?_
      exact (h14.1 c17)
    · refine r_aload_n dX11_feed_88 rfl ?_
      refine r_getS (v := 469) dX11_feed_89 kF11_9 (sh_o s16 kk468 (by decide)) (sh_f s16 rr468_1 (by decide)) ?_
      refine r_aload_n dX11_feed_92 rfl ?_
      refine r_get0 dX11_feed_93 kF11_116 (sh_o s16 kk468 (by decide)) ?_
      refine r_iload dX11_feed_96 rfl ?_
      have ob18 := (h14.2 c17).1
      refine r_iastore dX11_feed_98 ⟨jro_ix (sh_r s16 kk469 (by decide)) ob18, (by decide)⟩ ?_
      have K24 : ∀ N19 : jM, N19 = (si M13 469 (iv M13 468 2).toNat z12) → Run (e + 1) mX11_feed 99 [some (vR 468), some (vI x), some (vI y), some (vI z), some (vI u), some (vI v), some (vI l6), some (vI l7), some (vI z12)] [] N19 Q := by
        intro N19 hN23
        have sN20 : Shp N19 := by rw [hN23]; exact s16
        refine r_aload_n dX11_feed_99 rfl ?_
        refine r_dupR dX11_feed_100 ?_
        refine r_get0 dX11_feed_101 kF11_116 (sh_o sN20 kk468 (by decide)) ?_
        refine r_iconst dX11_feed_104 (by decide) ?_
        refine r_iadd dX11_feed_105 ?_
        refine r_put0 dX11_feed_106 kF11_116 (sh_o sN20 kk468 (by decide)) (Or.inl rfl) ?_
        have K26 : ∀ N21 : jM, N21 = (si N19 468 2 (w32 ((iv N19 468 2) + (1 : Int)))) → Run (e + 1) mX11_feed 109 [some (vR 468), some (vI x), some (vI y), some (vI z), some (vI u), some (vI v), some (vI l6), some (vI l7), some (vI z12)] [] N21 Q := by
          intro N21 hN25
          have sN22 : Shp N21 := by rw [hN25]; exact sN20
          refine r_iinc (ls2 := [some (vR 468), some (vI x), some (vI y), some (vI z), some (vI u), some (vI v), some (vI l6), some (vI (w32 (l7 + (1 : Int)))), some (vI z12)]) dX11_feed_109 rfl rfl ?_
          refine r_goto (tgt := 62) dX11_feed_112 rfl ?_
          exact (((h14.2 c17).2 N19 hN23 sN20) N21 hN25 sN22)
        exact K26 _ rfl
      exact K24 _ rfl
theorem vn_end {e : Nat} {M : jM} {Q : Option jV → jM → Prop} {n : Int} (he : 6 ≤ e) (hS : Shp M)
  (h : ((n < (0 : Int)) → (Q (some (vI (0 : Int))) M)) ∧ (¬ (n < (0 : Int)) → (((n ≤ (iv M 468 2)) → (∀ N3 : jM, N3 = (si M 468 2 n) → Shp N3 → (Q (some (vI (1 : Int))) N3))) ∧ (¬ (n ≤ (iv M 468 2)) → (Q (some (vI (0 : Int))) M))))) :
  Call (e + 1) mX11_end [vR 468, vI n] M Q := by
  show Run (e + 1) mX11_end 0 [some (vR 468), some (vI n)] [] M Q
  refine r_iload_n dX11_end_0 rfl ?_
  refine r_if_lt dX11_end_1 rfl (fun c1 => ?_) (fun c1 => ?_)
  · refine r_iconst dX11_end_12 (by decide) ?_
    exact r_zret dX11_end_13 rfl (by decide) (h.1 c1)
  · refine r_iload_n dX11_end_4 rfl ?_
    refine r_aload_n dX11_end_5 rfl ?_
    refine r_get0 dX11_end_6 kF11_116 (sh_o hS kk468 (by decide)) ?_
    refine r_icmp_le dX11_end_9 rfl (fun c2 => ?_) (fun c2 => ?_)
    · refine r_aload_n dX11_end_14 rfl ?_
      refine r_iload_n dX11_end_15 rfl ?_
      refine r_put0 dX11_end_16 kF11_116 (sh_o hS kk468 (by decide)) (Or.inl rfl) ?_
      have K6 : ∀ N3 : jM, N3 = (si M 468 2 n) → Run (e + 1) mX11_end 19 [some (vR 468), some (vI n)] [] N3 Q := by
        intro N3 hN5
        have sN4 : Shp N3 := by rw [hN5]; exact hS
        refine r_iconst dX11_end_19 (by decide) ?_
        exact r_zret dX11_end_20 rfl (by decide) (((h.2 c1).1 c2) N3 hN5 sN4)
      exact K6 _ rfl
    · refine r_iconst dX11_end_12 (by decide) ?_
      exact r_zret dX11_end_13 rfl (by decide) ((h.2 c1).2 c2)
theorem vn_look {e : Nat} {M : jM} {Q : Option jV → jM → Prop}  (he : 6 ≤ e) (hS : Shp M)
  (h : (0 ≤ iv M 468 3 ∧ iv M 468 2 ≤ 240) ∧ (∀ v2 : Int, v2 = ((if iv M 468 2 ≤ iv M 468 3 then (-1 : Int) else iv M 469 (iv M 468 3).toNat)) → (((v2 ≠ (32 : Int)) → (∀ v4 : Int, v4 = ((if iv M 468 2 ≤ iv M 468 3 then (-1 : Int) else iv M 469 (iv M 468 3).toNat)) → (Q (some (vI v4)) M))) ∧ (¬ (v2 ≠ (32 : Int)) → (∀ N5 : jM, N5 = (si M 468 3 (w32 ((iv M 468 3) + (1 : Int)))) → Shp N5 → (Run (e + 1) mX11_look 0 [some (vR 468)] [] N5 Q)))))) :
  Call (e + 1) mX11_look [vR 468] M Q := by
  show Run (e + 1) mX11_look 0 [some (vR 468)] [] M Q
  refine r_aload_n dX11_look_0 rfl ?_
  have ob1 := h.1
  refine r_invV_i dX11_look_1 kM11_122 (by decide) (Nat.le_of_ble_eq_true rfl) rfl rfl (Nat.le_of_ble_eq_true rfl) (Nat.le_of_ble_eq_true rfl) (sh_o hS kk468 (by decide)) (m_here (by omega) hS ob1 ⟨_, rfl, ?_⟩)
  have K8 : ∀ v2 : Int, v2 = ((if iv M 468 2 ≤ iv M 468 3 then (-1 : Int) else iv M 469 (iv M 468 3).toNat)) → Run (e + 1) mX11_look 4 [some (vR 468)] [vI v2] M Q := by
    intro v2 hv7
    refine r_bipush dX11_look_4 (by decide) ?_
    refine r_icmp_ne dX11_look_6 rfl (fun c3 => ?_) (fun c3 => ?_)
    · refine r_aload_n dX11_look_22 rfl ?_
      refine r_invV_i dX11_look_23 kM11_122 (by decide) (Nat.le_of_ble_eq_true rfl) rfl rfl (Nat.le_of_ble_eq_true rfl) (Nat.le_of_ble_eq_true rfl) (sh_o hS kk468 (by decide)) (m_here (by omega) hS ob1 ⟨_, rfl, ?_⟩)
      have K10 : ∀ v4 : Int, v4 = ((if iv M 468 2 ≤ iv M 468 3 then (-1 : Int) else iv M 469 (iv M 468 3).toNat)) → Run (e + 1) mX11_look 26 [some (vR 468)] [vI v4] M Q := by
        intro v4 hv9
        exact r_iret dX11_look_26 rfl (((h.2 v2 hv7).1 c3) v4 hv9)
      exact K10 _ rfl
    · refine r_aload_n dX11_look_9 rfl ?_
      refine r_dupR dX11_look_10 ?_
      refine r_get0 dX11_look_11 kF11_119 (sh_o hS kk468 (by decide)) ?_
      refine r_iconst dX11_look_14 (by decide) ?_
      refine r_iadd dX11_look_15 ?_
      refine r_put0 dX11_look_16 kF11_119 (sh_o hS kk468 (by decide)) (Or.inl rfl) ?_
      have K12 : ∀ N5 : jM, N5 = (si M 468 3 (w32 ((iv M 468 3) + (1 : Int)))) → Run (e + 1) mX11_look 19 [some (vR 468)] [] N5 Q := by
        intro N5 hN11
        have sN6 : Shp N5 := by rw [hN11]; exact hS
        refine r_goto (tgt := 0) dX11_look_19 rfl ?_
        exact (((h.2 v2 hv7).2 c3) N5 hN11 sN6)
      exact K12 _ rfl
  exact K8 _ rfl
theorem vn_look_0 {e : Nat} {M : jM} {Q : Option jV → jM → Prop}   (he : 6 ≤ e) (hS : Shp M)
  (h : (0 ≤ iv M 468 3 ∧ iv M 468 2 ≤ 240) ∧ (∀ v14 : Int, v14 = ((if iv M 468 2 ≤ iv M 468 3 then (-1 : Int) else iv M 469 (iv M 468 3).toNat)) → (((v14 ≠ (32 : Int)) → (∀ v16 : Int, v16 = ((if iv M 468 2 ≤ iv M 468 3 then (-1 : Int) else iv M 469 (iv M 468 3).toNat)) → (Q (some (vI v16)) M))) ∧ (¬ (v14 ≠ (32 : Int)) → (∀ N17 : jM, N17 = (si M 468 3 (w32 ((iv M 468 3) + (1 : Int)))) → Shp N17 → (Run (e + 1) mX11_look 0 [some (vR 468)] [] N17 Q)))))) :
  Run (e + 1) mX11_look 0 [some (vR 468)] [] M Q := by
  refine r_aload_n dX11_look_0 rfl ?_
  have ob13 := h.1
  refine r_invV_i dX11_look_1 kM11_122 (by decide) (Nat.le_of_ble_eq_true rfl) rfl rfl (Nat.le_of_ble_eq_true rfl) (Nat.le_of_ble_eq_true rfl) (sh_o hS kk468 (by decide)) (m_here (by omega) hS ob13 ⟨_, rfl, ?_⟩)
  have K20 : ∀ v14 : Int, v14 = ((if iv M 468 2 ≤ iv M 468 3 then (-1 : Int) else iv M 469 (iv M 468 3).toNat)) → Run (e + 1) mX11_look 4 [some (vR 468)] [vI v14] M Q := by
    intro v14 hv19
    refine r_bipush dX11_look_4 (by decide) ?_
    refine r_icmp_ne dX11_look_6 rfl (fun c15 => ?_) (fun c15 => ?_)
    · refine r_aload_n dX11_look_22 rfl ?_
      refine r_invV_i dX11_look_23 kM11_122 (by decide) (Nat.le_of_ble_eq_true rfl) rfl rfl (Nat.le_of_ble_eq_true rfl) (Nat.le_of_ble_eq_true rfl) (sh_o hS kk468 (by decide)) (m_here (by omega) hS ob13 ⟨_, rfl, ?_⟩)
      have K22 : ∀ v16 : Int, v16 = ((if iv M 468 2 ≤ iv M 468 3 then (-1 : Int) else iv M 469 (iv M 468 3).toNat)) → Run (e + 1) mX11_look 26 [some (vR 468)] [vI v16] M Q := by
        intro v16 hv21
        exact r_iret dX11_look_26 rfl (((h.2 v14 hv19).1 c15) v16 hv21)
      exact K22 _ rfl
    · refine r_aload_n dX11_look_9 rfl ?_
      refine r_dupR dX11_look_10 ?_
      refine r_get0 dX11_look_11 kF11_119 (sh_o hS kk468 (by decide)) ?_
      refine r_iconst dX11_look_14 (by decide) ?_
      refine r_iadd dX11_look_15 ?_
      refine r_put0 dX11_look_16 kF11_119 (sh_o hS kk468 (by decide)) (Or.inl rfl) ?_
      have K24 : ∀ N17 : jM, N17 = (si M 468 3 (w32 ((iv M 468 3) + (1 : Int)))) → Run (e + 1) mX11_look 19 [some (vR 468)] [] N17 Q := by
        intro N17 hN23
        have sN18 : Shp N17 := by rw [hN23]; exact hS
        refine r_goto (tgt := 0) dX11_look_19 rfl ?_
        exact (((h.2 v14 hv19).2 c15) N17 hN23 sN18)
      exact K24 _ rfl
  exact K20 _ rfl
theorem vn_put {e : Nat} {M : jM} {Q : Option jV → jM → Prop} {c : Int} {v : Int} (he : 6 ≤ e) (hS : Shp M)
  (h : (0 ≤ (iv M 468 14) ∧ (iv M 468 14) < 5) ∧ (∀ v2 : Int, v2 = (w32 ((w32 ((520 : Int) * (iv M 468 14))) + (iv M 472 (iv M 468 14).toNat))) → ((0 ≤ v2 ∧ v2 < 2600) ∧ (∀ N4 : jM, N4 = (si M 470 (v2).toNat c) → Shp N4 → ((0 ≤ (iv N4 468 14) ∧ (iv N4 468 14) < 5) ∧ (∀ v7 : Int, v7 = (w32 ((w32 ((520 : Int) * (iv N4 468 14))) + (iv N4 472 (iv N4 468 14).toNat))) → ((0 ≤ v7 ∧ v7 < 2600) ∧ (∀ N9 : jM, N9 = (si N4 471 (v7).toNat v) → Shp N9 → ((0 ≤ (iv N9 468 14) ∧ (iv N9 468 14) < 5) ∧ (∀ N12 : jM, N12 = (si N9 472 (iv N9 468 14).toNat (w32 ((iv N9 472 (iv N9 468 14).toNat) + (1 : Int)))) → Shp N12 → (Q none N12))))))))))) :
  Call (e + 1) mX11_put [vR 468, vI c, vI v] M Q := by
  show Run (e + 1) mX11_put 0 [some (vR 468), some (vI c), some (vI v)] [] M Q
  refine r_aload_n dX11_put_0 rfl ?_
  refine r_getS (v := 470) dX11_put_1 kF11_13 (sh_o hS kk468 (by decide)) (sh_f hS rr468_6 (by decide)) ?_
  refine r_sipush dX11_put_4 (by decide) ?_
  refine r_aload_n dX11_put_7 rfl ?_
  refine r_get0 dX11_put_8 kF11_129 (sh_o hS kk468 (by decide)) ?_
  refine r_imul dX11_put_11 ?_
  refine r_aload_n dX11_put_12 rfl ?_
  refine r_getS (v := 472) dX11_put_13 kF11_19 (sh_o hS kk468 (by decide)) (sh_f hS rr468_8 (by decide)) ?_
  refine r_aload_n dX11_put_16 rfl ?_
  refine r_get0 dX11_put_17 kF11_129 (sh_o hS kk468 (by decide)) ?_
  have ob1 := h.1
  refine r_iaload dX11_put_20 (jro_ix (sh_r hS kk472 (by decide)) ob1) ?_
  refine r_iadd dX11_put_21 ?_
  have K15 : ∀ v2 : Int, v2 = (w32 ((w32 ((520 : Int) * (iv M 468 14))) + (iv M 472 (iv M 468 14).toNat))) → Run (e + 1) mX11_put 22 [some (vR 468), some (vI c), some (vI v)] [vI v2, vR 470] M Q := by
    intro v2 hv14
    refine r_iload_n dX11_put_22 rfl ?_
    have ob3 := (h.2 v2 hv14).1
    refine r_iastore dX11_put_23 ⟨jro_ix (sh_r hS kk470 (by decide)) ob3, (by decide)⟩ ?_
    have K17 : ∀ N4 : jM, N4 = (si M 470 (v2).toNat c) → Run (e + 1) mX11_put 24 [some (vR 468), some (vI c), some (vI v)] [] N4 Q := by
      intro N4 hN16
      have sN5 : Shp N4 := by rw [hN16]; exact hS
      refine r_aload_n dX11_put_24 rfl ?_
      refine r_getS (v := 471) dX11_put_25 kF11_16 (sh_o sN5 kk468 (by decide)) (sh_f sN5 rr468_7 (by decide)) ?_
      refine r_sipush dX11_put_28 (by decide) ?_
      refine r_aload_n dX11_put_31 rfl ?_
      refine r_get0 dX11_put_32 kF11_129 (sh_o sN5 kk468 (by decide)) ?_
      refine r_imul dX11_put_35 ?_
      refine r_aload_n dX11_put_36 rfl ?_
      refine r_getS (v := 472) dX11_put_37 kF11_19 (sh_o sN5 kk468 (by decide)) (sh_f sN5 rr468_8 (by decide)) ?_
      refine r_aload_n dX11_put_40 rfl ?_
      refine r_get0 dX11_put_41 kF11_129 (sh_o sN5 kk468 (by decide)) ?_
      have ob6 := ((h.2 v2 hv14).2 N4 hN16 sN5).1
      refine r_iaload dX11_put_44 (jro_ix (sh_r sN5 kk472 (by decide)) ob6) ?_
      refine r_iadd dX11_put_45 ?_
      have K19 : ∀ v7 : Int, v7 = (w32 ((w32 ((520 : Int) * (iv N4 468 14))) + (iv N4 472 (iv N4 468 14).toNat))) → Run (e + 1) mX11_put 46 [some (vR 468), some (vI c), some (vI v)] [vI v7, vR 471] N4 Q := by
        intro v7 hv18
        refine r_iload_n dX11_put_46 rfl ?_
        have ob8 := (((h.2 v2 hv14).2 N4 hN16 sN5).2 v7 hv18).1
        refine r_iastore dX11_put_47 ⟨jro_ix (sh_r sN5 kk471 (by decide)) ob8, (by decide)⟩ ?_
        have K21 : ∀ N9 : jM, N9 = (si N4 471 (v7).toNat v) → Run (e + 1) mX11_put 48 [some (vR 468), some (vI c), some (vI v)] [] N9 Q := by
          intro N9 hN20
          have sN10 : Shp N9 := by rw [hN20]; exact sN5
          refine r_aload_n dX11_put_48 rfl ?_
          refine r_getS (v := 472) dX11_put_49 kF11_19 (sh_o sN10 kk468 (by decide)) (sh_f sN10 rr468_8 (by decide)) ?_
          refine r_aload_n dX11_put_52 rfl ?_
          refine r_get0 dX11_put_53 kF11_129 (sh_o sN10 kk468 (by decide)) ?_
          refine r_dup2IR dX11_put_56 ?_
          have ob11 := ((((h.2 v2 hv14).2 N4 hN16 sN5).2 v7 hv18).2 N9 hN20 sN10).1
          refine r_iaload dX11_put_57 (jro_ix (sh_r sN10 kk472 (by decide)) ob11) ?_
          refine r_iconst dX11_put_58 (by decide) ?_
          refine r_iadd dX11_put_59 ?_
          refine r_iastore dX11_put_60 ⟨jro_ix (sh_r sN10 kk472 (by decide)) ob11, (by decide)⟩ ?_
          have K23 : ∀ N12 : jM, N12 = (si N9 472 (iv N9 468 14).toNat (w32 ((iv N9 472 (iv N9 468 14).toNat) + (1 : Int)))) → Run (e + 1) mX11_put 61 [some (vR 468), some (vI c), some (vI v)] [] N12 Q := by
            intro N12 hN22
            have sN13 : Shp N12 := by rw [hN22]; exact sN10
            exact r_vret dX11_put_61 rfl (((((h.2 v2 hv14).2 N4 hN16 sN5).2 v7 hv18).2 N9 hN20 sN10).2 N12 hN22 sN13)
          exact K23 _ rfl
        exact K21 _ rfl
      exact K19 _ rfl
    exact K17 _ rfl
  exact K15 _ rfl
theorem vn_opens {e : Nat} {M : jM} {Q : Option jV → jM → Prop}  (he : 6 ≤ e) (hS : Shp M)
  (h : (((iv M 468 5) ≠ (6 : Int)) → (∀ N2 : jM, N2 = (si M 468 5 (w32 ((iv M 468 5) + (1 : Int)))) → Shp N2 → (∀ N4 : jM, N4 = (si N2 468 3 (w32 ((iv N2 468 3) + (1 : Int)))) → Shp N4 → (Q none N4)))) ∧ (¬ ((iv M 468 5) ≠ (6 : Int)) → (∀ N6 : jM, N6 = (si M 468 4 (if iv M 468 4 = -1 then iv M 468 3 else iv M 468 4)) → Shp N6 → (∀ N8 : jM, N8 = (si N6 468 5 (w32 ((iv N6 468 5) + (1 : Int)))) → Shp N8 → (∀ N10 : jM, N10 = (si N8 468 3 (w32 ((iv N8 468 3) + (1 : Int)))) → Shp N10 → (Q none N10)))))) :
  Call (e + 1) mX11_opens [vR 468] M Q := by
  show Run (e + 1) mX11_opens 0 [some (vR 468)] [] M Q
  refine r_aload_n dX11_opens_0 rfl ?_
  refine r_get0 dX11_opens_1 kF11_132 (sh_o hS kk468 (by decide)) ?_
  refine r_bipush dX11_opens_4 (by decide) ?_
  refine r_icmp_ne dX11_opens_6 rfl (fun c1 => ?_) (fun c1 => ?_)
  · refine r_aload_n dX11_opens_13 rfl ?_
    refine r_dupR dX11_opens_14 ?_
    refine r_get0 dX11_opens_15 kF11_132 (sh_o hS kk468 (by decide)) ?_
    refine r_iconst dX11_opens_18 (by decide) ?_
    refine r_iadd dX11_opens_19 ?_
    refine r_put0 dX11_opens_20 kF11_132 (sh_o hS kk468 (by decide)) (Or.inl rfl) ?_
    have K13 : ∀ N2 : jM, N2 = (si M 468 5 (w32 ((iv M 468 5) + (1 : Int)))) → Run (e + 1) mX11_opens 23 [some (vR 468)] [] N2 Q := by
      intro N2 hN12
      have sN3 : Shp N2 := by rw [hN12]; exact hS
      refine r_aload_n dX11_opens_23 rfl ?_
      refine r_dupR dX11_opens_24 ?_
      refine r_get0 dX11_opens_25 kF11_119 (sh_o sN3 kk468 (by decide)) ?_
      refine r_iconst dX11_opens_28 (by decide) ?_
      refine r_iadd dX11_opens_29 ?_
      refine r_put0 dX11_opens_30 kF11_119 (sh_o sN3 kk468 (by decide)) (Or.inl rfl) ?_
      have K15 : ∀ N4 : jM, N4 = (si N2 468 3 (w32 ((iv N2 468 3) + (1 : Int)))) → Run (e + 1) mX11_opens 33 [some (vR 468)] [] N4 Q := by
        intro N4 hN14
        have sN5 : Shp N4 := by rw [hN14]; exact sN3
        exact r_vret dX11_opens_33 rfl (((h.1 c1) N2 hN12 sN3) N4 hN14 sN5)
      exact K15 _ rfl
    exact K13 _ rfl
  · refine r_aload_n dX11_opens_9 rfl ?_
    refine r_invV_v dX11_opens_10 kM11_135 (by decide) (Nat.le_of_ble_eq_true rfl) rfl rfl (Nat.le_of_ble_eq_true rfl) (Nat.le_of_ble_eq_true rfl) (sh_o hS kk468 (by decide)) (m_bad (by omega) hS ⟨rfl, ?_⟩)
    have K17 : ∀ N6 : jM, N6 = (si M 468 4 (if iv M 468 4 = -1 then iv M 468 3 else iv M 468 4)) → Run (e + 1) mX11_opens 13 [some (vR 468)] [] N6 Q := by
      intro N6 hN16
      have sN7 : Shp N6 := by rw [hN16]; exact hS
      refine r_aload_n dX11_opens_13 rfl ?_
      refine r_dupR dX11_opens_14 ?_
      refine r_get0 dX11_opens_15 kF11_132 (sh_o sN7 kk468 (by decide)) ?_
      refine r_iconst dX11_opens_18 (by decide) ?_
      refine r_iadd dX11_opens_19 ?_
      refine r_put0 dX11_opens_20 kF11_132 (sh_o sN7 kk468 (by decide)) (Or.inl rfl) ?_
      have K19 : ∀ N8 : jM, N8 = (si N6 468 5 (w32 ((iv N6 468 5) + (1 : Int)))) → Run (e + 1) mX11_opens 23 [some (vR 468)] [] N8 Q := by
        intro N8 hN18
        have sN9 : Shp N8 := by rw [hN18]; exact sN7
        refine r_aload_n dX11_opens_23 rfl ?_
        refine r_dupR dX11_opens_24 ?_
        refine r_get0 dX11_opens_25 kF11_119 (sh_o sN9 kk468 (by decide)) ?_
        refine r_iconst dX11_opens_28 (by decide) ?_
        refine r_iadd dX11_opens_29 ?_
        refine r_put0 dX11_opens_30 kF11_119 (sh_o sN9 kk468 (by decide)) (Or.inl rfl) ?_
        have K21 : ∀ N10 : jM, N10 = (si N8 468 3 (w32 ((iv N8 468 3) + (1 : Int)))) → Run (e + 1) mX11_opens 33 [some (vR 468)] [] N10 Q := by
          intro N10 hN20
          have sN11 : Shp N10 := by rw [hN20]; exact sN9
          exact r_vret dX11_opens_33 rfl ((((h.2 c1) N6 hN16 sN7) N8 hN18 sN9) N10 hN20 sN11)
        exact K21 _ rfl
      exact K19 _ rfl
    exact K17 _ rfl
theorem vn_closes {e : Nat} {M : jM} {Q : Option jV → jM → Prop} {c : Int} (he : 6 ≤ e) (hS : Shp M)
  (h : (((iv M 468 4) ≠ (-1 : Int)) → (∀ N2 : jM, N2 = (si M 468 3 (w32 ((iv M 468 3) + (1 : Int)))) → Shp N2 → (∀ N4 : jM, N4 = (si N2 468 5 (w32 ((iv N2 468 5) - (1 : Int)))) → Shp N4 → (Q none N4)))) ∧ (¬ ((iv M 468 4) ≠ (-1 : Int)) → (Call e mX11_look [vR 468] M (fun r9 M7 => ∃ z6 : Int, r9 = some (vI z6) ∧ Shp M7 ∧ (((z6 = c) → (∀ N12 : jM, N12 = (si M7 468 3 (w32 ((iv M7 468 3) + (1 : Int)))) → Shp N12 → (∀ N14 : jM, N14 = (si N12 468 5 (w32 ((iv N12 468 5) - (1 : Int)))) → Shp N14 → (Q none N14)))) ∧ (¬ (z6 = c) → (∀ N16 : jM, N16 = (si M7 468 4 (if iv M7 468 4 = -1 then iv M7 468 3 else iv M7 468 4)) → Shp N16 → (∀ N18 : jM, N18 = (si N16 468 3 (w32 ((iv N16 468 3) + (1 : Int)))) → Shp N18 → (∀ N20 : jM, N20 = (si N18 468 5 (w32 ((iv N18 468 5) - (1 : Int)))) → Shp N20 → (Q none N20)))))))))) :
  Call (e + 1) mX11_closes [vR 468, vI c] M Q := by
  show Run (e + 1) mX11_closes 0 [some (vR 468), some (vI c)] [] M Q
  refine r_aload_n dX11_closes_0 rfl ?_
  refine r_get0 dX11_closes_1 kF11_126 (sh_o hS kk468 (by decide)) ?_
  refine r_iconst dX11_closes_4 (by decide) ?_
  refine r_icmp_ne dX11_closes_5 rfl (fun c1 => ?_) (fun c1 => ?_)
  · refine r_aload_n dX11_closes_20 rfl ?_
    refine r_dupR dX11_closes_21 ?_
    refine r_get0 dX11_closes_22 kF11_119 (sh_o hS kk468 (by decide)) ?_
    refine r_iconst dX11_closes_25 (by decide) ?_
    refine r_iadd dX11_closes_26 ?_
    refine r_put0 dX11_closes_27 kF11_119 (sh_o hS kk468 (by decide)) (Or.inl rfl) ?_
    have K23 : ∀ N2 : jM, N2 = (si M 468 3 (w32 ((iv M 468 3) + (1 : Int)))) → Run (e + 1) mX11_closes 30 [some (vR 468), some (vI c)] [] N2 Q := by
      intro N2 hN22
      have sN3 : Shp N2 := by rw [hN22]; exact hS
      refine r_aload_n dX11_closes_30 rfl ?_
      refine r_dupR dX11_closes_31 ?_
      refine r_get0 dX11_closes_32 kF11_132 (sh_o sN3 kk468 (by decide)) ?_
      refine r_iconst dX11_closes_35 (by decide) ?_
      refine r_isub dX11_closes_36 ?_
      refine r_put0 dX11_closes_37 kF11_132 (sh_o sN3 kk468 (by decide)) (Or.inl rfl) ?_
      have K25 : ∀ N4 : jM, N4 = (si N2 468 5 (w32 ((iv N2 468 5) - (1 : Int)))) → Run (e + 1) mX11_closes 40 [some (vR 468), some (vI c)] [] N4 Q := by
        intro N4 hN24
        have sN5 : Shp N4 := by rw [hN24]; exact sN3
        exact r_vret dX11_closes_40 rfl (((h.1 c1) N2 hN22 sN3) N4 hN24 sN5)
      exact K25 _ rfl
    exact K23 _ rfl
  · refine r_aload_n dX11_closes_8 rfl ?_
    refine r_invV_i dX11_closes_9 kM11_138 (by decide) (Nat.le_of_ble_eq_true rfl) rfl rfl (Nat.le_of_ble_eq_true rfl) (Nat.le_of_ble_eq_true rfl) (sh_o hS kk468 (by decide)) (Call.mono (h.2 c1) (Nat.le_refl _) ?_)
    rintro _ M7 ⟨z6, rfl, s10, h8⟩
    refine ⟨_, rfl, ?_⟩
    refine r_iload_n dX11_closes_12 rfl ?_
    refine r_icmp_eq dX11_closes_13 rfl (fun c11 => ?_) (fun c11 => ?_)
    · refine r_aload_n dX11_closes_20 rfl ?_
      refine r_dupR dX11_closes_21 ?_
      refine r_get0 dX11_closes_22 kF11_119 (sh_o s10 kk468 (by decide)) ?_
      refine r_iconst dX11_closes_25 (by decide) ?_
      refine r_iadd dX11_closes_26 ?_
      refine r_put0 dX11_closes_27 kF11_119 (sh_o s10 kk468 (by decide)) (Or.inl rfl) ?_
      have K27 : ∀ N12 : jM, N12 = (si M7 468 3 (w32 ((iv M7 468 3) + (1 : Int)))) → Run (e + 1) mX11_closes 30 [some (vR 468), some (vI c)] [] N12 Q := by
        intro N12 hN26
        have sN13 : Shp N12 := by rw [hN26]; exact s10
        refine r_aload_n dX11_closes_30 rfl ?_
        refine r_dupR dX11_closes_31 ?_
        refine r_get0 dX11_closes_32 kF11_132 (sh_o sN13 kk468 (by decide)) ?_
        refine r_iconst dX11_closes_35 (by decide) ?_
        refine r_isub dX11_closes_36 ?_
        refine r_put0 dX11_closes_37 kF11_132 (sh_o sN13 kk468 (by decide)) (Or.inl rfl) ?_
        have K29 : ∀ N14 : jM, N14 = (si N12 468 5 (w32 ((iv N12 468 5) - (1 : Int)))) → Run (e + 1) mX11_closes 40 [some (vR 468), some (vI c)] [] N14 Q := by
          intro N14 hN28
          have sN15 : Shp N14 := by rw [hN28]; exact sN13
          exact r_vret dX11_closes_40 rfl (((h8.1 c11) N12 hN26 sN13) N14 hN28 sN15)
        exact K29 _ rfl
      exact K27 _ rfl
    · refine r_aload_n dX11_closes_16 rfl ?_
      refine r_invV_v dX11_closes_17 kM11_135 (by decide) (Nat.le_of_ble_eq_true rfl) rfl rfl (Nat.le_of_ble_eq_true rfl) (Nat.le_of_ble_eq_true rfl) (sh_o s10 kk468 (by decide)) (m_bad (by omega) s10 ⟨rfl, ?_⟩)
      have K31 : ∀ N16 : jM, N16 = (si M7 468 4 (if iv M7 468 4 = -1 then iv M7 468 3 else iv M7 468 4)) → Run (e + 1) mX11_closes 20 [some (vR 468), some (vI c)] [] N16 Q := by
        intro N16 hN30
        have sN17 : Shp N16 := by rw [hN30]; exact s10
        refine r_aload_n dX11_closes_20 rfl ?_
        refine r_dupR dX11_closes_21 ?_
        refine r_get0 dX11_closes_22 kF11_119 (sh_o sN17 kk468 (by decide)) ?_
        refine r_iconst dX11_closes_25 (by decide) ?_
        refine r_iadd dX11_closes_26 ?_
        refine r_put0 dX11_closes_27 kF11_119 (sh_o sN17 kk468 (by decide)) (Or.inl rfl) ?_
        have K33 : ∀ N18 : jM, N18 = (si N16 468 3 (w32 ((iv N16 468 3) + (1 : Int)))) → Run (e + 1) mX11_closes 30 [some (vR 468), some (vI c)] [] N18 Q := by
          intro N18 hN32
          have sN19 : Shp N18 := by rw [hN32]; exact sN17
          refine r_aload_n dX11_closes_30 rfl ?_
          refine r_dupR dX11_closes_31 ?_
          refine r_get0 dX11_closes_32 kF11_132 (sh_o sN19 kk468 (by decide)) ?_
          refine r_iconst dX11_closes_35 (by decide) ?_
          refine r_isub dX11_closes_36 ?_
          refine r_put0 dX11_closes_37 kF11_132 (sh_o sN19 kk468 (by decide)) (Or.inl rfl) ?_
          have K35 : ∀ N20 : jM, N20 = (si N18 468 5 (w32 ((iv N18 468 5) - (1 : Int)))) → Run (e + 1) mX11_closes 40 [some (vR 468), some (vI c)] [] N20 Q := by
            intro N20 hN34
            have sN21 : Shp N20 := by rw [hN34]; exact sN19
            exact r_vret dX11_closes_40 rfl ((((h8.2 c11) N16 hN30 sN17) N18 hN32 sN19) N20 hN34 sN21)
          exact K35 _ rfl
        exact K33 _ rfl
      exact K31 _ rfl
theorem vn_plainNumber {e : Nat} {M : jM} {Q : Option jV → jM → Prop}  (he : 6 ≤ e) (hS : Shp M)
  (h : Run (e + 1) mX11_plainNumber 4 [some (vR 468), some (vI (0 : Int)), some (vI (0 : Int))] [] M Q) :
  Call (e + 1) mX11_plainNumber [vR 468] M Q := by
  show Run (e + 1) mX11_plainNumber 0 [some (vR 468), none, none] [] M Q
  refine r_iconst dX11_plainNumber_0 (by decide) ?_
  refine r_istore_n (ls2 := [some (vR 468), some (vI (0 : Int)), none]) dX11_plainNumber_1 (Nat.le_of_ble_eq_true rfl) rfl ?_
  refine r_iconst dX11_plainNumber_2 (by decide) ?_
  refine r_istore_n (ls2 := [some (vR 468), some (vI (0 : Int)), some (vI (0 : Int))]) dX11_plainNumber_3 (Nat.le_of_ble_eq_true rfl) rfl ?_
  exact h
theorem vn_plainNumber_4 {e : Nat} {M : jM} {Q : Option jV → jM → Prop} {l1 : Int} {l2 : Int}  (he : 6 ≤ e) (hS : Shp M)
  (h : (((4 : Int) ≤ l2) → ((0 ≤ iv M 468 3 ∧ iv M 468 2 ≤ 240) ∧ (∀ v3 : Int, v3 = ((if iv M 468 2 ≤ iv M 468 3 then (-1 : Int) else iv M 469 (iv M 468 3).toNat)) → ((((fDg v3) = (0 : Int)) → (Q (some (vI l1)) M)) ∧ (¬ ((fDg v3) = (0 : Int)) → (∀ N5 : jM, N5 = (si M 468 4 (if iv M 468 4 = -1 then iv M 468 3 else iv M 468 4)) → Shp N5 → (Q (some (vI l1)) N5))))))) ∧ (¬ ((4 : Int) ≤ l2) → ((0 ≤ iv M 468 3 ∧ iv M 468 2 ≤ 240) ∧ (∀ v8 : Int, v8 = ((if iv M 468 2 ≤ iv M 468 3 then (-1 : Int) else iv M 469 (iv M 468 3).toNat)) → ((((fDg v8) = (0 : Int)) → (∀ v10 : Int, v10 = ((if iv M 468 2 ≤ iv M 468 3 then (-1 : Int) else iv M 469 (iv M 468 3).toNat)) → ((((fDg v10) = (0 : Int)) → (Q (some (vI l1)) M)) ∧ (¬ ((fDg v10) = (0 : Int)) → (∀ N12 : jM, N12 = (si M 468 4 (if iv M 468 4 = -1 then iv M 468 3 else iv M 468 4)) → Shp N12 → (Q (some (vI l1)) N12)))))) ∧ (¬ ((fDg v8) = (0 : Int)) → (∀ v14 : Int, v14 = ((if iv M 468 2 ≤ iv M 468 3 then (-1 : Int) else iv M 469 (iv M 468 3).toNat)) → (∀ N15 : jM, N15 = (si M 468 3 (w32 ((iv M 468 3) + (1 : Int)))) → Shp N15 → (Run (e + 1) mX11_plainNumber 4 [some (vR 468), some (vI (w32 ((w32 ((w32 ((10 : Int) * l1)) + v14)) - (48 : Int)))), some (vI (w32 (l2 + (1 : Int))))] [] N15 Q))))))))) :
  Run (e + 1) mX11_plainNumber 4 [some (vR 468), some (vI l1), some (vI l2)] [] M Q := by
  refine r_iload_n dX11_plainNumber_4 rfl ?_
  refine r_iconst dX11_plainNumber_5 (by decide) ?_
  refine r_icmp_ge dX11_plainNumber_6 rfl (fun c1 => ?_) (fun c1 => ?_)
  · refine r_aload_n dX11_plainNumber_48 rfl ?_
    have ob2 := (h.1 c1).1
    refine r_invV_i dX11_plainNumber_49 kM11_122 (by decide) (Nat.le_of_ble_eq_true rfl) rfl rfl (Nat.le_of_ble_eq_true rfl) (Nat.le_of_ble_eq_true rfl) (sh_o hS kk468 (by decide)) (m_here (by omega) hS ob2 ⟨_, rfl, ?_⟩)
    have K18 : ∀ v3 : Int, v3 = ((if iv M 468 2 ≤ iv M 468 3 then (-1 : Int) else iv M 469 (iv M 468 3).toNat)) → Run (e + 1) mX11_plainNumber 52 [some (vR 468), some (vI l1), some (vI l2)] [vI v3] M Q := by
      intro v3 hv17
      refine r_invS_i dX11_plainNumber_52 (by decide) kXn11_141 kM11_141 (by decide) (Nat.le_of_ble_eq_true rfl) rfl rfl (Nat.le_of_ble_eq_true rfl) (Nat.le_of_ble_eq_true rfl) (m_isDigit (by omega) hS ⟨_, rfl, ?_⟩)
      refine r_if_eq dX11_plainNumber_55 rfl (fun c4 => ?_) (fun c4 => ?_)
      · refine r_iload_n dX11_plainNumber_62 rfl ?_
        exact r_iret dX11_plainNumber_63 rfl (((h.1 c1).2 v3 hv17).1 c4)
      · refine r_aload_n dX11_plainNumber_58 rfl ?_
        refine r_invV_v dX11_plainNumber_59 kM11_135 (by decide) (Nat.le_of_ble_eq_true rfl) rfl rfl (Nat.le_of_ble_eq_true rfl) (Nat.le_of_ble_eq_true rfl) (sh_o hS kk468 (by decide)) (m_bad (by omega) hS ⟨rfl, ?_⟩)
        have K20 : ∀ N5 : jM, N5 = (si M 468 4 (if iv M 468 4 = -1 then iv M 468 3 else iv M 468 4)) → Run (e + 1) mX11_plainNumber 62 [some (vR 468), some (vI l1), some (vI l2)] [] N5 Q := by
          intro N5 hN19
          have sN6 : Shp N5 := by rw [hN19]; exact hS
          refine r_iload_n dX11_plainNumber_62 rfl ?_
          exact r_iret dX11_plainNumber_63 rfl ((((h.1 c1).2 v3 hv17).2 c4) N5 hN19 sN6)
        exact K20 _ rfl
    exact K18 _ rfl
  · refine r_aload_n dX11_plainNumber_9 rfl ?_
    have ob7 := (h.2 c1).1
    refine r_invV_i dX11_plainNumber_10 kM11_122 (by decide) (Nat.le_of_ble_eq_true rfl) rfl rfl (Nat.le_of_ble_eq_true rfl) (Nat.le_of_ble_eq_true rfl) (sh_o hS kk468 (by decide)) (m_here (by omega) hS ob7 ⟨_, rfl, ?_⟩)
    have K22 : ∀ v8 : Int, v8 = ((if iv M 468 2 ≤ iv M 468 3 then (-1 : Int) else iv M 469 (iv M 468 3).toNat)) → Run (e + 1) mX11_plainNumber 13 [some (vR 468), some (vI l1), some (vI l2)] [vI v8] M Q := by
      intro v8 hv21
      refine r_invS_i dX11_plainNumber_13 (by decide) kXn11_141 kM11_141 (by decide) (Nat.le_of_ble_eq_true rfl) rfl rfl (Nat.le_of_ble_eq_true rfl) (Nat.le_of_ble_eq_true rfl) (m_isDigit (by omega) hS ⟨_, rfl, ?_⟩)
      refine r_if_eq dX11_plainNumber_16 rfl (fun c9 => ?_) (fun c9 => ?_)
      · refine r_aload_n dX11_plainNumber_48 rfl ?_
        refine r_invV_i dX11_plainNumber_49 kM11_122 (by decide) (Nat.le_of_ble_eq_true rfl) rfl rfl (Nat.le_of_ble_eq_true rfl) (Nat.le_of_ble_eq_true rfl) (sh_o hS kk468 (by decide)) (m_here (by omega) hS ob7 ⟨_, rfl, ?_⟩)
        have K24 : ∀ v10 : Int, v10 = ((if iv M 468 2 ≤ iv M 468 3 then (-1 : Int) else iv M 469 (iv M 468 3).toNat)) → Run (e + 1) mX11_plainNumber 52 [some (vR 468), some (vI l1), some (vI l2)] [vI v10] M Q := by
          intro v10 hv23
          refine r_invS_i dX11_plainNumber_52 (by decide) kXn11_141 kM11_141 (by decide) (Nat.le_of_ble_eq_true rfl) rfl rfl (Nat.le_of_ble_eq_true rfl) (Nat.le_of_ble_eq_true rfl) (m_isDigit (by omega) hS ⟨_, rfl, ?_⟩)
          refine r_if_eq dX11_plainNumber_55 rfl (fun c11 => ?_) (fun c11 => ?_)
          · refine r_iload_n dX11_plainNumber_62 rfl ?_
            exact r_iret dX11_plainNumber_63 rfl (((((h.2 c1).2 v8 hv21).1 c9) v10 hv23).1 c11)
          · refine r_aload_n dX11_plainNumber_58 rfl ?_
            refine r_invV_v dX11_plainNumber_59 kM11_135 (by decide) (Nat.le_of_ble_eq_true rfl) rfl rfl (Nat.le_of_ble_eq_true rfl) (Nat.le_of_ble_eq_true rfl) (sh_o hS kk468 (by decide)) (m_bad (by omega) hS ⟨rfl, ?_⟩)
            have K26 : ∀ N12 : jM, N12 = (si M 468 4 (if iv M 468 4 = -1 then iv M 468 3 else iv M 468 4)) → Run (e + 1) mX11_plainNumber 62 [some (vR 468), some (vI l1), some (vI l2)] [] N12 Q := by
              intro N12 hN25
              have sN13 : Shp N12 := by rw [hN25]; exact hS
              refine r_iload_n dX11_plainNumber_62 rfl ?_
              exact r_iret dX11_plainNumber_63 rfl ((((((h.2 c1).2 v8 hv21).1 c9) v10 hv23).2 c11) N12 hN25 sN13)
            exact K26 _ rfl
        exact K24 _ rfl
      · refine r_bipush dX11_plainNumber_19 (by decide) ?_
        refine r_iload_n dX11_plainNumber_21 rfl ?_
        refine r_imul dX11_plainNumber_22 ?_
        refine r_aload_n dX11_plainNumber_23 rfl ?_
        refine r_invV_i dX11_plainNumber_24 kM11_122 (by decide) (Nat.le_of_ble_eq_true rfl) rfl rfl (Nat.le_of_ble_eq_true rfl) (Nat.le_of_ble_eq_true rfl) (sh_o hS kk468 (by decide)) (m_here (by omega) hS ob7 ⟨_, rfl, ?_⟩)
        have K28 : ∀ v14 : Int, v14 = ((if iv M 468 2 ≤ iv M 468 3 then (-1 : Int) else iv M 469 (iv M 468 3).toNat)) → Run (e + 1) mX11_plainNumber 27 [some (vR 468), some (vI l1), some (vI l2)] [vI v14, vI (w32 ((10 : Int) * l1))] M Q := by
          intro v14 hv27
          refine r_iadd dX11_plainNumber_27 ?_
          refine r_bipush dX11_plainNumber_28 (by decide) ?_
          refine r_isub dX11_plainNumber_30 ?_
          refine r_istore_n (ls2 := [some (vR 468), some (vI (w32 ((w32 ((w32 ((10 : Int) * l1)) + v14)) - (48 : Int)))), some (vI l2)]) dX11_plainNumber_31 (Nat.le_of_ble_eq_true rfl) rfl ?_
          refine r_aload_n dX11_plainNumber_32 rfl ?_
          refine r_dupR dX11_plainNumber_33 ?_
          refine r_get0 dX11_plainNumber_34 kF11_119 (sh_o hS kk468 (by decide)) ?_
          refine r_iconst dX11_plainNumber_37 (by decide) ?_
          refine r_iadd dX11_plainNumber_38 ?_
          refine r_put0 dX11_plainNumber_39 kF11_119 (sh_o hS kk468 (by decide)) (Or.inl rfl) ?_
          have K30 : ∀ N15 : jM, N15 = (si M 468 3 (w32 ((iv M 468 3) + (1 : Int)))) → Run (e + 1) mX11_plainNumber 42 [some (vR 468), some (vI (w32 ((w32 ((w32 ((10 : Int) * l1)) + v14)) - (48 : Int)))), some (vI l2)] [] N15 Q := by
            intro N15 hN29
            have sN16 : Shp N15 := by rw [hN29]; exact hS
            refine r_iinc (ls2 := [some (vR 468), some (vI (w32 ((w32 ((w32 ((10 : Int) * l1)) + v14)) - (48 : Int)))), some (vI (w32 (l2 + (1 : Int))))]) dX11_plainNumber_42 rfl rfl ?_
            refine r_goto (tgt := 4) dX11_plainNumber_45 rfl ?_
            exact (((((h.2 c1).2 v8 hv21).2 c9) v14 hv27) N15 hN29 sN16)
          exact K30 _ rfl
        exact K28 _ rfl
    exact K22 _ rfl
theorem vn_atom {e : Nat} {M : jM} {Q : Option jV → jM → Prop}  (he : 6 ≤ e) (hS : Shp M)
  (h : Call e mX11_look [vR 468] M (fun r4 M2 => ∃ z1 : Int, r4 = some (vI z1) ∧ Shp M2 ∧ ((((fDg z1) = (0 : Int)) → ((((fLt z1) = (-1 : Int)) → (((z1 ≠ (91 : Int)) → (∀ N9 : jM, N9 = (si M2 468 4 (if iv M2 468 4 = -1 then iv M2 468 3 else iv M2 468 4)) → Shp N9 → (Q none N9))) ∧ (¬ (z1 ≠ (91 : Int)) → (Call e mX11_opens [vR 468] M2 (fun r14 M12 => r14 = none ∧ Shp M12 ∧ ((((iv M12 468 4) ≠ (-1 : Int)) → (Q none M12)) ∧ (¬ ((iv M12 468 4) ≠ (-1 : Int)) → (Call e mX11_sum [vR 468] M12 (fun r20 M18 => r20 = none ∧ Shp M18 ∧ (Call e mX11_closes [vR 468, vI (93 : Int)] M18 (fun r25 M23 => r25 = none ∧ Shp M23 ∧ (Q none M23)))))))))))) ∧ (¬ ((fLt z1) = (-1 : Int)) → (∀ N27 : jM, N27 = (si M2 468 3 (w32 ((iv M2 468 3) + (1 : Int)))) → Shp N27 → (Call e mX11_put [vR 468, vI (1 : Int), vI (fLt z1)] N27 (fun r32 M30 => r32 = none ∧ Shp M30 ∧ (Q none M30))))))) ∧ (¬ ((fDg z1) = (0 : Int)) → (Call e mX11_plainNumber [vR 468] M2 (fun r37 M35 => ∃ z34 : Int, r37 = some (vI z34) ∧ Shp M35 ∧ (Call e mX11_put [vR 468, vI (0 : Int), vI z34] M35 (fun r42 M40 => r42 = none ∧ Shp M40 ∧ (Q none M40))))))))) :
  Call (e + 1) mX11_atom [vR 468] M Q := by
  show Run (e + 1) mX11_atom 0 [some (vR 468), none] [] M Q
  refine r_aload_n dX11_atom_0 rfl ?_
  refine r_invV_i dX11_atom_1 kM11_138 (by decide) (Nat.le_of_ble_eq_true rfl) rfl rfl (Nat.le_of_ble_eq_true rfl) (Nat.le_of_ble_eq_true rfl) (sh_o hS kk468 (by decide)) (Call.mono h (Nat.le_refl _) ?_)
  rintro _ M2 ⟨z1, rfl, s5, h3⟩
  refine ⟨_, rfl, ?_⟩
  refine r_istore_n (ls2 := [some (vR 468), some (vI z1)]) dX11_atom_4 (Nat.le_of_ble_eq_true rfl) rfl ?_
  refine r_iload_n dX11_atom_5 rfl ?_
  refine r_invS_i dX11_atom_6 (by decide) kXn11_141 kM11_141 (by decide) (Nat.le_of_ble_eq_true rfl) rfl rfl (Nat.le_of_ble_eq_true rfl) (Nat.le_of_ble_eq_true rfl) (m_isDigit (by omega) s5 ⟨_, rfl, ?_⟩)
  refine r_if_eq dX11_atom_9 rfl (fun c6 => ?_) (fun c6 => ?_)
  · refine r_iload_n dX11_atom_24 rfl ?_
    refine r_invS_i dX11_atom_25 (by decide) kXn11_152 kM11_152 (by decide) (Nat.le_of_ble_eq_true rfl) rfl rfl (Nat.le_of_ble_eq_true rfl) (Nat.le_of_ble_eq_true rfl) (m_letterOf (by omega) s5 ⟨_, rfl, ?_⟩)
    refine r_iconst dX11_atom_28 (by decide) ?_
    refine r_icmp_eq dX11_atom_29 rfl (fun c7 => ?_) (fun c7 => ?_)
    · refine r_iload_n dX11_atom_54 rfl ?_
      refine r_bipush dX11_atom_55 (by decide) ?_
      refine r_icmp_ne dX11_atom_57 rfl (fun c8 => ?_) (fun c8 => ?_)
      · refine r_aload_n dX11_atom_85 rfl ?_
        refine r_invV_v dX11_atom_86 kM11_135 (by decide) (Nat.le_of_ble_eq_true rfl) rfl rfl (Nat.le_of_ble_eq_true rfl) (Nat.le_of_ble_eq_true rfl) (sh_o s5 kk468 (by decide)) (m_bad (by omega) s5 ⟨rfl, ?_⟩)
        have K45 : ∀ N9 : jM, N9 = (si M2 468 4 (if iv M2 468 4 = -1 then iv M2 468 3 else iv M2 468 4)) → Run (e + 1) mX11_atom 89 [some (vR 468), some (vI z1)] [] N9 Q := by
          intro N9 hN44
          have sN10 : Shp N9 := by rw [hN44]; exact s5
          exact r_vret dX11_atom_89 rfl ((((h3.1 c6).1 c7).1 c8) N9 hN44 sN10)
        exact K45 _ rfl
      · refine r_aload_n dX11_atom_60 rfl ?_
        refine r_invV_v dX11_atom_61 kM11_156 (by decide) (Nat.le_of_ble_eq_true rfl) rfl rfl (Nat.le_of_ble_eq_true rfl) (Nat.le_of_ble_eq_true rfl) (sh_o s5 kk468 (by decide)) (Call.mono (((h3.1 c6).1 c7).2 c8) (Nat.le_refl _) ?_)
        rintro _ M12 ⟨rfl, s15, h13⟩
        refine ⟨rfl, ?_⟩
        refine r_aload_n dX11_atom_64 rfl ?_
        refine r_get0 dX11_atom_65 kF11_126 (sh_o s15 kk468 (by decide)) ?_
        refine r_iconst dX11_atom_68 (by decide) ?_
        refine r_icmp_ne dX11_atom_69 rfl (fun c16 => ?_) (fun c16 => ?_)
        · exact r_vret dX11_atom_89 rfl (h13.1 c16)
        · refine r_aload_n dX11_atom_72 rfl ?_
          refine r_invV_v dX11_atom_73 kM11_159 (by decide) (Nat.le_of_ble_eq_true rfl) rfl rfl (Nat.le_of_ble_eq_true rfl) (Nat.le_of_ble_eq_true rfl) (sh_o s15 kk468 (by decide)) (Call.mono (h13.2 c16) (Nat.le_refl _) ?_)
          rintro _ M18 ⟨rfl, s21, h19⟩
          refine ⟨rfl, ?_⟩
          refine r_aload_n dX11_atom_76 rfl ?_
          refine r_bipush dX11_atom_77 (by decide) ?_
          refine r_invV_v dX11_atom_79 kM11_162 (by decide) (Nat.le_of_ble_eq_true rfl) rfl rfl (Nat.le_of_ble_eq_true rfl) (Nat.le_of_ble_eq_true rfl) (sh_o s21 kk468 (by decide)) (Call.mono h19 (Nat.le_refl _) ?_)
          rintro _ M23 ⟨rfl, s26, h24⟩
          refine ⟨rfl, ?_⟩
          refine r_goto (tgt := 89) dX11_atom_82 rfl ?_
          exact r_vret dX11_atom_89 rfl h24
    · refine r_aload_n dX11_atom_32 rfl ?_
      refine r_dupR dX11_atom_33 ?_
      refine r_get0 dX11_atom_34 kF11_119 (sh_o s5 kk468 (by decide)) ?_
      refine r_iconst dX11_atom_37 (by decide) ?_
      refine r_iadd dX11_atom_38 ?_
      refine r_put0 dX11_atom_39 kF11_119 (sh_o s5 kk468 (by decide)) (Or.inl rfl) ?_
      have K47 : ∀ N27 : jM, N27 = (si M2 468 3 (w32 ((iv M2 468 3) + (1 : Int)))) → Run (e + 1) mX11_atom 42 [some (vR 468), some (vI z1)] [] N27 Q := by
        intro N27 hN46
        have sN28 : Shp N27 := by rw [hN46]; exact s5
        refine r_aload_n dX11_atom_42 rfl ?_
        refine r_iconst dX11_atom_43 (by decide) ?_
        refine r_iload_n dX11_atom_44 rfl ?_
        refine r_invS_i dX11_atom_45 (by decide) kXn11_152 kM11_152 (by decide) (Nat.le_of_ble_eq_true rfl) rfl rfl (Nat.le_of_ble_eq_true rfl) (Nat.le_of_ble_eq_true rfl) (m_letterOf (by omega) sN28 ⟨_, rfl, ?_⟩)
        refine r_invV_v dX11_atom_48 kM11_148 (by decide) (Nat.le_of_ble_eq_true rfl) rfl rfl (Nat.le_of_ble_eq_true rfl) (Nat.le_of_ble_eq_true rfl) (sh_o sN28 kk468 (by decide)) (Call.mono (((h3.1 c6).2 c7) N27 hN46 sN28) (Nat.le_refl _) ?_)
        rintro _ M30 ⟨rfl, s33, h31⟩
        refine ⟨rfl, ?_⟩
        refine r_goto (tgt := 89) dX11_atom_51 rfl ?_
        exact r_vret dX11_atom_89 rfl h31
      exact K47 _ rfl
  · refine r_aload_n dX11_atom_12 rfl ?_
    refine r_iconst dX11_atom_13 (by decide) ?_
    refine r_aload_n dX11_atom_14 rfl ?_
    refine r_invV_i dX11_atom_15 kM11_145 (by decide) (Nat.le_of_ble_eq_true rfl) rfl rfl (Nat.le_of_ble_eq_true rfl) (Nat.le_of_ble_eq_true rfl) (sh_o s5 kk468 (by decide)) (Call.mono (h3.2 c6) (Nat.le_refl _) ?_)
    rintro _ M35 ⟨z34, rfl, s38, h36⟩
    refine ⟨_, rfl, ?_⟩
    refine r_invV_v dX11_atom_18 kM11_148 (by decide) (Nat.le_of_ble_eq_true rfl) rfl rfl (Nat.le_of_ble_eq_true rfl) (Nat.le_of_ble_eq_true rfl) (sh_o s38 kk468 (by decide)) (Call.mono h36 (Nat.le_refl _) ?_)
    rintro _ M40 ⟨rfl, s43, h41⟩
    refine ⟨rfl, ?_⟩
    refine r_goto (tgt := 89) dX11_atom_21 rfl ?_
    exact r_vret dX11_atom_89 rfl h41
theorem vn_term {e : Nat} {M : jM} {Q : Option jV → jM → Prop}  (he : 6 ≤ e) (hS : Shp M)
  (h : Call e mX11_atom [vR 468] M (fun r4 M2 => r4 = none ∧ Shp M2 ∧ ((((iv M2 468 4) ≠ (-1 : Int)) → (Run (e + 1) mX11_term 21 [some (vR 468), some (vI (-1 : Int))] [] M2 Q)) ∧ (¬ ((iv M2 468 4) ≠ (-1 : Int)) → (Call e mX11_look [vR 468] M2 (fun r10 M8 => ∃ z7 : Int, r10 = some (vI z7) ∧ Shp M8 ∧ (Run (e + 1) mX11_term 21 [some (vR 468), some (vI z7)] [] M8 Q))))))) :
  Call (e + 1) mX11_term [vR 468] M Q := by
  show Run (e + 1) mX11_term 0 [some (vR 468), none] [] M Q
  refine r_aload_n dX11_term_0 rfl ?_
  refine r_invV_v dX11_term_1 kM11_166 (by decide) (Nat.le_of_ble_eq_true rfl) rfl rfl (Nat.le_of_ble_eq_true rfl) (Nat.le_of_ble_eq_true rfl) (sh_o hS kk468 (by decide)) (Call.mono h (Nat.le_refl _) ?_)
  rintro _ M2 ⟨rfl, s5, h3⟩
  refine ⟨rfl, ?_⟩
  refine r_aload_n dX11_term_4 rfl ?_
  refine r_get0 dX11_term_5 kF11_126 (sh_o s5 kk468 (by decide)) ?_
  refine r_iconst dX11_term_8 (by decide) ?_
  refine r_icmp_ne dX11_term_9 rfl (fun c6 => ?_) (fun c6 => ?_)
  · refine r_iconst dX11_term_19 (by decide) ?_
    refine r_istore_n (ls2 := [some (vR 468), some (vI (-1 : Int))]) dX11_term_20 (Nat.le_of_ble_eq_true rfl) rfl ?_
    exact (h3.1 c6)
  · refine r_aload_n dX11_term_12 rfl ?_
    refine r_invV_i dX11_term_13 kM11_138 (by decide) (Nat.le_of_ble_eq_true rfl) rfl rfl (Nat.le_of_ble_eq_true rfl) (Nat.le_of_ble_eq_true rfl) (sh_o s5 kk468 (by decide)) (Call.mono (h3.2 c6) (Nat.le_refl _) ?_)
    rintro _ M8 ⟨z7, rfl, s11, h9⟩
    refine ⟨_, rfl, ?_⟩
    refine r_goto (tgt := 20) dX11_term_16 rfl ?_
    refine r_istore_n (ls2 := [some (vR 468), some (vI z7)]) dX11_term_20 (Nat.le_of_ble_eq_true rfl) rfl ?_
    exact h9
theorem vn_term_21 {e : Nat} {M : jM} {Q : Option jV → jM → Prop} {l1 : Int}  (he : 6 ≤ e) (hS : Shp M)
  (h : ((l1 = (42 : Int)) → (∀ N13 : jM, N13 = (si M 468 3 (w32 ((iv M 468 3) + (1 : Int)))) → Shp N13 → (Call e mX11_atom [vR 468] N13 (fun r18 M16 => r18 = none ∧ Shp M16 ∧ (Call e mX11_put [vR 468, vI (if l1 ≠ (42 : Int) then (5 : Int) else (4 : Int)), vI (0 : Int)] M16 (fun r23 M21 => r23 = none ∧ Shp M21 ∧ ((((iv M21 468 4) ≠ (-1 : Int)) → (Run (e + 1) mX11_term 21 [some (vR 468), some (vI (-1 : Int))] [] M21 Q)) ∧ (¬ ((iv M21 468 4) ≠ (-1 : Int)) → (Call e mX11_look [vR 468] M21 (fun r29 M27 => ∃ z26 : Int, r29 = some (vI z26) ∧ Shp M27 ∧ (Run (e + 1) mX11_term 21 [some (vR 468), some (vI z26)] [] M27 Q))))))))))) ∧ (¬ (l1 = (42 : Int)) → (((l1 ≠ (47 : Int)) → (Q none M)) ∧ (¬ (l1 ≠ (47 : Int)) → (∀ N32 : jM, N32 = (si M 468 3 (w32 ((iv M 468 3) + (1 : Int)))) → Shp N32 → (Call e mX11_atom [vR 468] N32 (fun r37 M35 => r37 = none ∧ Shp M35 ∧ (Call e mX11_put [vR 468, vI (if l1 ≠ (42 : Int) then (5 : Int) else (4 : Int)), vI (0 : Int)] M35 (fun r42 M40 => r42 = none ∧ Shp M40 ∧ ((((iv M40 468 4) ≠ (-1 : Int)) → (Run (e + 1) mX11_term 21 [some (vR 468), some (vI (-1 : Int))] [] M40 Q)) ∧ (¬ ((iv M40 468 4) ≠ (-1 : Int)) → (Call e mX11_look [vR 468] M40 (fun r48 M46 => ∃ z45 : Int, r48 = some (vI z45) ∧ Shp M46 ∧ (Run (e + 1) mX11_term 21 [some (vR 468), some (vI z45)] [] M46 Q)))))))))))))) :
  Run (e + 1) mX11_term 21 [some (vR 468), some (vI l1)] [] M Q := by
  refine r_iload_n dX11_term_21 rfl ?_
  refine r_bipush dX11_term_22 (by decide) ?_
  refine r_icmp_eq dX11_term_24 rfl (fun c12 => ?_) (fun c12 => ?_)
  · refine r_aload_n dX11_term_33 rfl ?_
    refine r_dupR dX11_term_34 ?_
    refine r_get0 dX11_term_35 kF11_119 (sh_o hS kk468 (by decide)) ?_
    refine r_iconst dX11_term_38 (by decide) ?_
    refine r_iadd dX11_term_39 ?_
    refine r_put0 dX11_term_40 kF11_119 (sh_o hS kk468 (by decide)) (Or.inl rfl) ?_
    have K51 : ∀ N13 : jM, N13 = (si M 468 3 (w32 ((iv M 468 3) + (1 : Int)))) → Run (e + 1) mX11_term 43 [some (vR 468), some (vI l1)] [] N13 Q := by
      intro N13 hN50
      have sN14 : Shp N13 := by rw [hN50]; exact hS
      refine r_aload_n dX11_term_43 rfl ?_
      refine r_invV_v dX11_term_44 kM11_166 (by decide) (Nat.le_of_ble_eq_true rfl) rfl rfl (Nat.le_of_ble_eq_true rfl) (Nat.le_of_ble_eq_true rfl) (sh_o sN14 kk468 (by decide)) (Call.mono ((h.1 c12) N13 hN50 sN14) (Nat.le_refl _) ?_)
      rintro _ M16 ⟨rfl, s19, h17⟩
      refine ⟨rfl, ?_⟩
      refine r_aload_n dX11_term_47 rfl ?_
      refine r_iload_n dX11_term_48 rfl ?_
      refine r_bipush dX11_term_49 (by decide) ?_
      have K52 : Run (e + 1) mX11_term 59 [some (vR 468), some (vI l1)] [vI (if l1 ≠ (42 : Int) then (5 : Int) else (4 : Int)), vR 468] M16 Q := by
        refine r_iconst dX11_term_59 (by decide) ?_
        refine r_invV_v dX11_term_60 kM11_148 (by decide) (Nat.le_of_ble_eq_true rfl) rfl rfl (Nat.le_of_ble_eq_true rfl) (Nat.le_of_ble_eq_true rfl) (sh_o s19 kk468 (by decide)) (Call.mono h17 (Nat.le_refl _) ?_)
        rintro _ M21 ⟨rfl, s24, h22⟩
        refine ⟨rfl, ?_⟩
        refine r_aload_n dX11_term_63 rfl ?_
        refine r_get0 dX11_term_64 kF11_126 (sh_o s24 kk468 (by decide)) ?_
        refine r_iconst dX11_term_67 (by decide) ?_
        refine r_icmp_ne dX11_term_68 rfl (fun c25 => ?_) (fun c25 => ?_)
        · refine r_iconst dX11_term_78 (by decide) ?_
          refine r_istore_n (ls2 := [some (vR 468), some (vI (-1 : Int))]) dX11_term_79 (Nat.le_of_ble_eq_true rfl) rfl ?_
          refine r_goto (tgt := 21) dX11_term_80 rfl ?_
          exact (h22.1 c25)
        · refine r_aload_n dX11_term_71 rfl ?_
          refine r_invV_i dX11_term_72 kM11_138 (by decide) (Nat.le_of_ble_eq_true rfl) rfl rfl (Nat.le_of_ble_eq_true rfl) (Nat.le_of_ble_eq_true rfl) (sh_o s24 kk468 (by decide)) (Call.mono (h22.2 c25) (Nat.le_refl _) ?_)
          rintro _ M27 ⟨z26, rfl, s30, h28⟩
          refine ⟨_, rfl, ?_⟩
          refine r_goto (tgt := 79) dX11_term_75 rfl ?_
          refine r_istore_n (ls2 := [some (vR 468), some (vI z26)]) dX11_term_79 (Nat.le_of_ble_eq_true rfl) rfl ?_
          refine r_goto (tgt := 21) dX11_term_80 rfl ?_
          exact h28
      refine r_icmp_ne dX11_term_51 rfl (fun q53 => ?_) (fun q53 => ?_)
      · rw [if_pos q53] at K52
        refine r_iconst dX11_term_58 (by decide) ?_
        exact K52
      · rw [if_neg q53] at K52
        refine r_iconst dX11_term_54 (by decide) ?_
        refine r_goto (tgt := 59) dX11_term_55 rfl ?_
        exact K52
    exact K51 _ rfl
  · refine r_iload_n dX11_term_27 rfl ?_
    refine r_bipush dX11_term_28 (by decide) ?_
    refine r_icmp_ne dX11_term_30 rfl (fun c31 => ?_) (fun c31 => ?_)
    · exact r_vret dX11_term_83 rfl ((h.2 c12).1 c31)
    · refine r_aload_n dX11_term_33 rfl ?_
      refine r_dupR dX11_term_34 ?_
      refine r_get0 dX11_term_35 kF11_119 (sh_o hS kk468 (by decide)) ?_
      refine r_iconst dX11_term_38 (by decide) ?_
      refine r_iadd dX11_term_39 ?_
      refine r_put0 dX11_term_40 kF11_119 (sh_o hS kk468 (by decide)) (Or.inl rfl) ?_
      have K56 : ∀ N32 : jM, N32 = (si M 468 3 (w32 ((iv M 468 3) + (1 : Int)))) → Run (e + 1) mX11_term 43 [some (vR 468), some (vI l1)] [] N32 Q := by
        intro N32 hN55
        have sN33 : Shp N32 := by rw [hN55]; exact hS
        refine r_aload_n dX11_term_43 rfl ?_
        refine r_invV_v dX11_term_44 kM11_166 (by decide) (Nat.le_of_ble_eq_true rfl) rfl rfl (Nat.le_of_ble_eq_true rfl) (Nat.le_of_ble_eq_true rfl) (sh_o sN33 kk468 (by decide)) (Call.mono (((h.2 c12).2 c31) N32 hN55 sN33) (Nat.le_refl _) ?_)
        rintro _ M35 ⟨rfl, s38, h36⟩
        refine ⟨rfl, ?_⟩
        refine r_aload_n dX11_term_47 rfl ?_
        refine r_iload_n dX11_term_48 rfl ?_
        refine r_bipush dX11_term_49 (by decide) ?_
        have K57 : Run (e + 1) mX11_term 59 [some (vR 468), some (vI l1)] [vI (if l1 ≠ (42 : Int) then (5 : Int) else (4 : Int)), vR 468] M35 Q := by
          refine r_iconst dX11_term_59 (by decide) ?_
          refine r_invV_v dX11_term_60 kM11_148 (by decide) (Nat.le_of_ble_eq_true rfl) rfl rfl (Nat.le_of_ble_eq_true rfl) (Nat.le_of_ble_eq_true rfl) (sh_o s38 kk468 (by decide)) (Call.mono h36 (Nat.le_refl _) ?_)
          rintro _ M40 ⟨rfl, s43, h41⟩
          refine ⟨rfl, ?_⟩
          refine r_aload_n dX11_term_63 rfl ?_
          refine r_get0 dX11_term_64 kF11_126 (sh_o s43 kk468 (by decide)) ?_
          refine r_iconst dX11_term_67 (by decide) ?_
          refine r_icmp_ne dX11_term_68 rfl (fun c44 => ?_) (fun c44 => ?_)
          · refine r_iconst dX11_term_78 (by decide) ?_
            refine r_istore_n (ls2 := [some (vR 468), some (vI (-1 : Int))]) dX11_term_79 (Nat.le_of_ble_eq_true rfl) rfl ?_
            refine r_goto (tgt := 21) dX11_term_80 rfl ?_
            exact (h41.1 c44)
          · refine r_aload_n dX11_term_71 rfl ?_
            refine r_invV_i dX11_term_72 kM11_138 (by decide) (Nat.le_of_ble_eq_true rfl) rfl rfl (Nat.le_of_ble_eq_true rfl) (Nat.le_of_ble_eq_true rfl) (sh_o s43 kk468 (by decide)) (Call.mono (h41.2 c44) (Nat.le_refl _) ?_)
            rintro _ M46 ⟨z45, rfl, s49, h47⟩
            refine ⟨_, rfl, ?_⟩
            refine r_goto (tgt := 79) dX11_term_75 rfl ?_
            refine r_istore_n (ls2 := [some (vR 468), some (vI z45)]) dX11_term_79 (Nat.le_of_ble_eq_true rfl) rfl ?_
            refine r_goto (tgt := 21) dX11_term_80 rfl ?_
            exact h47
        refine r_icmp_ne dX11_term_51 rfl (fun q58 => ?_) (fun q58 => ?_)
        · rw [if_pos q58] at K57
          refine r_iconst dX11_term_58 (by decide) ?_
          exact K57
        · rw [if_neg q58] at K57
          refine r_iconst dX11_term_54 (by decide) ?_
          refine r_goto (tgt := 59) dX11_term_55 rfl ?_
          exact K57
      exact K56 _ rfl
theorem vn_sum {e : Nat} {M : jM} {Q : Option jV → jM → Prop}  (he : 6 ≤ e) (hS : Shp M)
  (h : Call e mX11_term [vR 468] M (fun r4 M2 => r4 = none ∧ Shp M2 ∧ ((((iv M2 468 4) ≠ (-1 : Int)) → (Run (e + 1) mX11_sum 21 [some (vR 468), some (vI (-1 : Int))] [] M2 Q)) ∧ (¬ ((iv M2 468 4) ≠ (-1 : Int)) → (Call e mX11_look [vR 468] M2 (fun r10 M8 => ∃ z7 : Int, r10 = some (vI z7) ∧ Shp M8 ∧ (Run (e + 1) mX11_sum 21 [some (vR 468), some (vI z7)] [] M8 Q))))))) :
  Call (e + 1) mX11_sum [vR 468] M Q := by
  show Run (e + 1) mX11_sum 0 [some (vR 468), none] [] M Q
  refine r_aload_n dX11_sum_0 rfl ?_
  refine r_invV_v dX11_sum_1 kM11_169 (by decide) (Nat.le_of_ble_eq_true rfl) rfl rfl (Nat.le_of_ble_eq_true rfl) (Nat.le_of_ble_eq_true rfl) (sh_o hS kk468 (by decide)) (Call.mono h (Nat.le_refl _) ?_)
  rintro _ M2 ⟨rfl, s5, h3⟩
  refine ⟨rfl, ?_⟩
  refine r_aload_n dX11_sum_4 rfl ?_
  refine r_get0 dX11_sum_5 kF11_126 (sh_o s5 kk468 (by decide)) ?_
  refine r_iconst dX11_sum_8 (by decide) ?_
  refine r_icmp_ne dX11_sum_9 rfl (fun c6 => ?_) (fun c6 => ?_)
  · refine r_iconst dX11_sum_19 (by decide) ?_
    refine r_istore_n (ls2 := [some (vR 468), some (vI (-1 : Int))]) dX11_sum_20 (Nat.le_of_ble_eq_true rfl) rfl ?_
    exact (h3.1 c6)
  · refine r_aload_n dX11_sum_12 rfl ?_
    refine r_invV_i dX11_sum_13 kM11_138 (by decide) (Nat.le_of_ble_eq_true rfl) rfl rfl (Nat.le_of_ble_eq_true rfl) (Nat.le_of_ble_eq_true rfl) (sh_o s5 kk468 (by decide)) (Call.mono (h3.2 c6) (Nat.le_refl _) ?_)
    rintro _ M8 ⟨z7, rfl, s11, h9⟩
    refine ⟨_, rfl, ?_⟩
    refine r_goto (tgt := 20) dX11_sum_16 rfl ?_
    refine r_istore_n (ls2 := [some (vR 468), some (vI z7)]) dX11_sum_20 (Nat.le_of_ble_eq_true rfl) rfl ?_
    exact h9
theorem vn_sum_21 {e : Nat} {M : jM} {Q : Option jV → jM → Prop} {l1 : Int}  (he : 6 ≤ e) (hS : Shp M)
  (h : ((l1 = (43 : Int)) → (∀ N13 : jM, N13 = (si M 468 3 (w32 ((iv M 468 3) + (1 : Int)))) → Shp N13 → (Call e mX11_term [vR 468] N13 (fun r18 M16 => r18 = none ∧ Shp M16 ∧ (Call e mX11_put [vR 468, vI (if l1 ≠ (43 : Int) then (3 : Int) else (2 : Int)), vI (0 : Int)] M16 (fun r23 M21 => r23 = none ∧ Shp M21 ∧ ((((iv M21 468 4) ≠ (-1 : Int)) → (Run (e + 1) mX11_sum 21 [some (vR 468), some (vI (-1 : Int))] [] M21 Q)) ∧ (¬ ((iv M21 468 4) ≠ (-1 : Int)) → (Call e mX11_look [vR 468] M21 (fun r29 M27 => ∃ z26 : Int, r29 = some (vI z26) ∧ Shp M27 ∧ (Run (e + 1) mX11_sum 21 [some (vR 468), some (vI z26)] [] M27 Q))))))))))) ∧ (¬ (l1 = (43 : Int)) → (((l1 ≠ (45 : Int)) → (Q none M)) ∧ (¬ (l1 ≠ (45 : Int)) → (∀ N32 : jM, N32 = (si M 468 3 (w32 ((iv M 468 3) + (1 : Int)))) → Shp N32 → (Call e mX11_term [vR 468] N32 (fun r37 M35 => r37 = none ∧ Shp M35 ∧ (Call e mX11_put [vR 468, vI (if l1 ≠ (43 : Int) then (3 : Int) else (2 : Int)), vI (0 : Int)] M35 (fun r42 M40 => r42 = none ∧ Shp M40 ∧ ((((iv M40 468 4) ≠ (-1 : Int)) → (Run (e + 1) mX11_sum 21 [some (vR 468), some (vI (-1 : Int))] [] M40 Q)) ∧ (¬ ((iv M40 468 4) ≠ (-1 : Int)) → (Call e mX11_look [vR 468] M40 (fun r48 M46 => ∃ z45 : Int, r48 = some (vI z45) ∧ Shp M46 ∧ (Run (e + 1) mX11_sum 21 [some (vR 468), some (vI z45)] [] M46 Q)))))))))))))) :
  Run (e + 1) mX11_sum 21 [some (vR 468), some (vI l1)] [] M Q := by
  refine r_iload_n dX11_sum_21 rfl ?_
  refine r_bipush dX11_sum_22 (by decide) ?_
  refine r_icmp_eq dX11_sum_24 rfl (fun c12 => ?_) (fun c12 => ?_)
  · refine r_aload_n dX11_sum_33 rfl ?_
    refine r_dupR dX11_sum_34 ?_
    refine r_get0 dX11_sum_35 kF11_119 (sh_o hS kk468 (by decide)) ?_
    refine r_iconst dX11_sum_38 (by decide) ?_
    refine r_iadd dX11_sum_39 ?_
    refine r_put0 dX11_sum_40 kF11_119 (sh_o hS kk468 (by decide)) (Or.inl rfl) ?_
    have K51 : ∀ N13 : jM, N13 = (si M 468 3 (w32 ((iv M 468 3) + (1 : Int)))) → Run (e + 1) mX11_sum 43 [some (vR 468), some (vI l1)] [] N13 Q := by
      intro N13 hN50
      have sN14 : Shp N13 := by rw [hN50]; exact hS
      refine r_aload_n dX11_sum_43 rfl ?_
      refine r_invV_v dX11_sum_44 kM11_169 (by decide) (Nat.le_of_ble_eq_true rfl) rfl rfl (Nat.le_of_ble_eq_true rfl) (Nat.le_of_ble_eq_true rfl) (sh_o sN14 kk468 (by decide)) (Call.mono ((h.1 c12) N13 hN50 sN14) (Nat.le_refl _) ?_)
      rintro _ M16 ⟨rfl, s19, h17⟩
      refine ⟨rfl, ?_⟩
      refine r_aload_n dX11_sum_47 rfl ?_
      refine r_iload_n dX11_sum_48 rfl ?_
      refine r_bipush dX11_sum_49 (by decide) ?_
      have K52 : Run (e + 1) mX11_sum 59 [some (vR 468), some (vI l1)] [vI (if l1 ≠ (43 : Int) then (3 : Int) else (2 : Int)), vR 468] M16 Q := by
        refine r_iconst dX11_sum_59 (by decide) ?_
        refine r_invV_v dX11_sum_60 kM11_148 (by decide) (Nat.le_of_ble_eq_true rfl) rfl rfl (Nat.le_of_ble_eq_true rfl) (Nat.le_of_ble_eq_true rfl) (sh_o s19 kk468 (by decide)) (Call.mono h17 (Nat.le_refl _) ?_)
        rintro _ M21 ⟨rfl, s24, h22⟩
        refine ⟨rfl, ?_⟩
        refine r_aload_n dX11_sum_63 rfl ?_
        refine r_get0 dX11_sum_64 kF11_126 (sh_o s24 kk468 (by decide)) ?_
        refine r_iconst dX11_sum_67 (by decide) ?_
        refine r_icmp_ne dX11_sum_68 rfl (fun c25 => ?_) (fun c25 => ?_)
        · refine r_iconst dX11_sum_78 (by decide) ?_
          refine r_istore_n (ls2 := [some (vR 468), some (vI (-1 : Int))]) dX11_sum_79 (Nat.le_of_ble_eq_true rfl) rfl ?_
          refine r_goto (tgt := 21) dX11_sum_80 rfl ?_
          exact (h22.1 c25)
        · refine r_aload_n dX11_sum_71 rfl ?_
          refine r_invV_i dX11_sum_72 kM11_138 (by decide) (Nat.le_of_ble_eq_true rfl) rfl rfl (Nat.le_of_ble_eq_true rfl) (Nat.le_of_ble_eq_true rfl) (sh_o s24 kk468 (by decide)) (Call.mono (h22.2 c25) (Nat.le_refl _) ?_)
          rintro _ M27 ⟨z26, rfl, s30, h28⟩
          refine ⟨_, rfl, ?_⟩
          refine r_goto (tgt := 79) dX11_sum_75 rfl ?_
          refine r_istore_n (ls2 := [some (vR 468), some (vI z26)]) dX11_sum_79 (Nat.le_of_ble_eq_true rfl) rfl ?_
          refine r_goto (tgt := 21) dX11_sum_80 rfl ?_
          exact h28
      refine r_icmp_ne dX11_sum_51 rfl (fun q53 => ?_) (fun q53 => ?_)
      · rw [if_pos q53] at K52
        refine r_iconst dX11_sum_58 (by decide) ?_
        exact K52
      · rw [if_neg q53] at K52
        refine r_iconst dX11_sum_54 (by decide) ?_
        refine r_goto (tgt := 59) dX11_sum_55 rfl ?_
        exact K52
    exact K51 _ rfl
  · refine r_iload_n dX11_sum_27 rfl ?_
    refine r_bipush dX11_sum_28 (by decide) ?_
    refine r_icmp_ne dX11_sum_30 rfl (fun c31 => ?_) (fun c31 => ?_)
    · exact r_vret dX11_sum_83 rfl ((h.2 c12).1 c31)
    · refine r_aload_n dX11_sum_33 rfl ?_
      refine r_dupR dX11_sum_34 ?_
      refine r_get0 dX11_sum_35 kF11_119 (sh_o hS kk468 (by decide)) ?_
      refine r_iconst dX11_sum_38 (by decide) ?_
      refine r_iadd dX11_sum_39 ?_
      refine r_put0 dX11_sum_40 kF11_119 (sh_o hS kk468 (by decide)) (Or.inl rfl) ?_
      have K56 : ∀ N32 : jM, N32 = (si M 468 3 (w32 ((iv M 468 3) + (1 : Int)))) → Run (e + 1) mX11_sum 43 [some (vR 468), some (vI l1)] [] N32 Q := by
        intro N32 hN55
        have sN33 : Shp N32 := by rw [hN55]; exact hS
        refine r_aload_n dX11_sum_43 rfl ?_
        refine r_invV_v dX11_sum_44 kM11_169 (by decide) (Nat.le_of_ble_eq_true rfl) rfl rfl (Nat.le_of_ble_eq_true rfl) (Nat.le_of_ble_eq_true rfl) (sh_o sN33 kk468 (by decide)) (Call.mono (((h.2 c12).2 c31) N32 hN55 sN33) (Nat.le_refl _) ?_)
        rintro _ M35 ⟨rfl, s38, h36⟩
        refine ⟨rfl, ?_⟩
        refine r_aload_n dX11_sum_47 rfl ?_
        refine r_iload_n dX11_sum_48 rfl ?_
        refine r_bipush dX11_sum_49 (by decide) ?_
        have K57 : Run (e + 1) mX11_sum 59 [some (vR 468), some (vI l1)] [vI (if l1 ≠ (43 : Int) then (3 : Int) else (2 : Int)), vR 468] M35 Q := by
          refine r_iconst dX11_sum_59 (by decide) ?_
          refine r_invV_v dX11_sum_60 kM11_148 (by decide) (Nat.le_of_ble_eq_true rfl) rfl rfl (Nat.le_of_ble_eq_true rfl) (Nat.le_of_ble_eq_true rfl) (sh_o s38 kk468 (by decide)) (Call.mono h36 (Nat.le_refl _) ?_)
          rintro _ M40 ⟨rfl, s43, h41⟩
          refine ⟨rfl, ?_⟩
          refine r_aload_n dX11_sum_63 rfl ?_
          refine r_get0 dX11_sum_64 kF11_126 (sh_o s43 kk468 (by decide)) ?_
          refine r_iconst dX11_sum_67 (by decide) ?_
          refine r_icmp_ne dX11_sum_68 rfl (fun c44 => ?_) (fun c44 => ?_)
          · refine r_iconst dX11_sum_78 (by decide) ?_
            refine r_istore_n (ls2 := [some (vR 468), some (vI (-1 : Int))]) dX11_sum_79 (Nat.le_of_ble_eq_true rfl) rfl ?_
            refine r_goto (tgt := 21) dX11_sum_80 rfl ?_
            exact (h41.1 c44)
          · refine r_aload_n dX11_sum_71 rfl ?_
            refine r_invV_i dX11_sum_72 kM11_138 (by decide) (Nat.le_of_ble_eq_true rfl) rfl rfl (Nat.le_of_ble_eq_true rfl) (Nat.le_of_ble_eq_true rfl) (sh_o s43 kk468 (by decide)) (Call.mono (h41.2 c44) (Nat.le_refl _) ?_)
            rintro _ M46 ⟨z45, rfl, s49, h47⟩
            refine ⟨_, rfl, ?_⟩
            refine r_goto (tgt := 79) dX11_sum_75 rfl ?_
            refine r_istore_n (ls2 := [some (vR 468), some (vI z45)]) dX11_sum_79 (Nat.le_of_ble_eq_true rfl) rfl ?_
            refine r_goto (tgt := 21) dX11_sum_80 rfl ?_
            exact h47
        refine r_icmp_ne dX11_sum_51 rfl (fun q58 => ?_) (fun q58 => ?_)
        · rw [if_pos q58] at K57
          refine r_iconst dX11_sum_58 (by decide) ?_
          exact K57
        · rw [if_neg q58] at K57
          refine r_iconst dX11_sum_54 (by decide) ?_
          refine r_goto (tgt := 59) dX11_sum_55 rfl ?_
          exact K57
      exact K56 _ rfl
theorem vn_compare {e : Nat} {M : jM} {Q : Option jV → jM → Prop}  (he : 6 ≤ e) (hS : Shp M)
  (h : (((iv M 468 4) ≠ (-1 : Int)) → ((((fSg (-1 : Int)) ≠ (0 : Int)) → (∀ N3 : jM, N3 = (si M 468 3 (w32 ((iv M 468 3) + (1 : Int)))) → Shp N3 → (Call e mX11_sum [vR 468] N3 (fun r8 M6 => r8 = none ∧ Shp M6 ∧ (Call e mX11_put [vR 468, vI (8 : Int), vI (0 : Int)] M6 (fun r13 M11 => r13 = none ∧ Shp M11 ∧ (Q none M11))))))) ∧ (¬ ((fSg (-1 : Int)) ≠ (0 : Int)) → (∀ N15 : jM, N15 = (si M 468 4 (if iv M 468 4 = -1 then iv M 468 3 else iv M 468 4)) → Shp N15 → (Q none N15))))) ∧ (¬ ((iv M 468 4) ≠ (-1 : Int)) → (Call e mX11_look [vR 468] M (fun r20 M18 => ∃ z17 : Int, r20 = some (vI z17) ∧ Shp M18 ∧ ((((fSg z17) ≠ (0 : Int)) → (∀ N23 : jM, N23 = (si M18 468 3 (w32 ((iv M18 468 3) + (1 : Int)))) → Shp N23 → (Call e mX11_sum [vR 468] N23 (fun r28 M26 => r28 = none ∧ Shp M26 ∧ (∀ v30 : Int, v30 = ((if z17 ≠ (61 : Int) then (if z17 ≠ (60 : Int) then (8 : Int) else (7 : Int)) else (6 : Int))) → (Call e mX11_put [vR 468, vI v30, vI (0 : Int)] M26 (fun r34 M32 => r34 = none ∧ Shp M32 ∧ (Q none M32)))))))) ∧ (¬ ((fSg z17) ≠ (0 : Int)) → (∀ N36 : jM, N36 = (si M18 468 4 (if iv M18 468 4 = -1 then iv M18 468 3 else iv M18 468 4)) → Shp N36 → (Q none N36)))))))) :
  Call (e + 1) mX11_compare [vR 468] M Q := by
  show Run (e + 1) mX11_compare 0 [some (vR 468), none] [] M Q
  refine r_aload_n dX11_compare_0 rfl ?_
  refine r_get0 dX11_compare_1 kF11_126 (sh_o hS kk468 (by decide)) ?_
  refine r_iconst dX11_compare_4 (by decide) ?_
  refine r_icmp_ne dX11_compare_5 rfl (fun c1 => ?_) (fun c1 => ?_)
  · refine r_iconst dX11_compare_15 (by decide) ?_
    refine r_istore_n (ls2 := [some (vR 468), some (vI (-1 : Int))]) dX11_compare_16 (Nat.le_of_ble_eq_true rfl) rfl ?_
    refine r_iload_n dX11_compare_17 rfl ?_
    refine r_invS_i dX11_compare_18 (by decide) kXn11_172 kM11_172 (by decide) (Nat.le_of_ble_eq_true rfl) rfl rfl (Nat.le_of_ble_eq_true rfl) (Nat.le_of_ble_eq_true rfl) (m_isSign (by omega) hS ⟨_, rfl, ?_⟩)
    refine r_if_ne dX11_compare_21 rfl (fun c2 => ?_) (fun c2 => ?_)
    · refine r_aload_n dX11_compare_29 rfl ?_
      refine r_dupR dX11_compare_30 ?_
      refine r_get0 dX11_compare_31 kF11_119 (sh_o hS kk468 (by decide)) ?_
      refine r_iconst dX11_compare_34 (by decide) ?_
      refine r_iadd dX11_compare_35 ?_
      refine r_put0 dX11_compare_36 kF11_119 (sh_o hS kk468 (by decide)) (Or.inl rfl) ?_
      have K39 : ∀ N3 : jM, N3 = (si M 468 3 (w32 ((iv M 468 3) + (1 : Int)))) → Run (e + 1) mX11_compare 39 [some (vR 468), some (vI (-1 : Int))] [] N3 Q := by
        intro N3 hN38
        have sN4 : Shp N3 := by rw [hN38]; exact hS
        refine r_aload_n dX11_compare_39 rfl ?_
        refine r_invV_v dX11_compare_40 kM11_159 (by decide) (Nat.le_of_ble_eq_true rfl) rfl rfl (Nat.le_of_ble_eq_true rfl) (Nat.le_of_ble_eq_true rfl) (sh_o sN4 kk468 (by decide)) (Call.mono (((h.1 c1).1 c2) N3 hN38 sN4) (Nat.le_refl _) ?_)
        rintro _ M6 ⟨rfl, s9, h7⟩
        refine ⟨rfl, ?_⟩
        refine r_aload_n dX11_compare_43 rfl ?_
        refine r_iload_n dX11_compare_44 rfl ?_
        refine r_bipush dX11_compare_45 (by decide) ?_
        refine r_icmp_ne dX11_compare_47 rfl (fun _ => ?_) (fun q => absurd (by decide) q)
        refine r_iload_n dX11_compare_55 rfl ?_
        refine r_bipush dX11_compare_56 (by decide) ?_
        refine r_icmp_ne dX11_compare_58 rfl (fun _ => ?_) (fun q => absurd (by decide) q)
        refine r_bipush dX11_compare_66 (by decide) ?_
        refine r_iconst dX11_compare_68 (by decide) ?_
        refine r_invV_v dX11_compare_69 kM11_148 (by decide) (Nat.le_of_ble_eq_true rfl) rfl rfl (Nat.le_of_ble_eq_true rfl) (Nat.le_of_ble_eq_true rfl) (sh_o s9 kk468 (by decide)) (Call.mono h7 (Nat.le_refl _) ?_)
        rintro _ M11 ⟨rfl, s14, h12⟩
        refine ⟨rfl, ?_⟩
        exact r_vret dX11_compare_72 rfl h12
      exact K39 _ rfl
    · refine r_aload_n dX11_compare_24 rfl ?_
      refine r_invV_v dX11_compare_25 kM11_135 (by decide) (Nat.le_of_ble_eq_true rfl) rfl rfl (Nat.le_of_ble_eq_true rfl) (Nat.le_of_ble_eq_true rfl) (sh_o hS kk468 (by decide)) (m_bad (by omega) hS ⟨rfl, ?_⟩)
      have K41 : ∀ N15 : jM, N15 = (si M 468 4 (if iv M 468 4 = -1 then iv M 468 3 else iv M 468 4)) → Run (e + 1) mX11_compare 28 [some (vR 468), some (vI (-1 : Int))] [] N15 Q := by
        intro N15 hN40
        have sN16 : Shp N15 := by rw [hN40]; exact hS
        exact r_vret dX11_compare_28 rfl (((h.1 c1).2 c2) N15 hN40 sN16)
      exact K41 _ rfl
  · refine r_aload_n dX11_compare_8 rfl ?_
    refine r_invV_i dX11_compare_9 kM11_138 (by decide) (Nat.le_of_ble_eq_true rfl) rfl rfl (Nat.le_of_ble_eq_true rfl) (Nat.le_of_ble_eq_true rfl) (sh_o hS kk468 (by decide)) (Call.mono (h.2 c1) (Nat.le_refl _) ?_)
    rintro _ M18 ⟨z17, rfl, s21, h19⟩
    refine ⟨_, rfl, ?_⟩
    refine r_goto (tgt := 16) dX11_compare_12 rfl ?_
    refine r_istore_n (ls2 := [some (vR 468), some (vI z17)]) dX11_compare_16 (Nat.le_of_ble_eq_true rfl) rfl ?_
    refine r_iload_n dX11_compare_17 rfl ?_
    refine r_invS_i dX11_compare_18 (by decide) kXn11_172 kM11_172 (by decide) (Nat.le_of_ble_eq_true rfl) rfl rfl (Nat.le_of_ble_eq_true rfl) (Nat.le_of_ble_eq_true rfl) (m_isSign (by omega) s21 ⟨_, rfl, ?_⟩)
    refine r_if_ne dX11_compare_21 rfl (fun c22 => ?_) (fun c22 => ?_)
    · refine r_aload_n dX11_compare_29 rfl ?_
      refine r_dupR dX11_compare_30 ?_
      refine r_get0 dX11_compare_31 kF11_119 (sh_o s21 kk468 (by decide)) ?_
      refine r_iconst dX11_compare_34 (by decide) ?_
      refine r_iadd dX11_compare_35 ?_
      refine r_put0 dX11_compare_36 kF11_119 (sh_o s21 kk468 (by decide)) (Or.inl rfl) ?_
      have K43 : ∀ N23 : jM, N23 = (si M18 468 3 (w32 ((iv M18 468 3) + (1 : Int)))) → Run (e + 1) mX11_compare 39 [some (vR 468), some (vI z17)] [] N23 Q := by
        intro N23 hN42
        have sN24 : Shp N23 := by rw [hN42]; exact s21
        refine r_aload_n dX11_compare_39 rfl ?_
        refine r_invV_v dX11_compare_40 kM11_159 (by decide) (Nat.le_of_ble_eq_true rfl) rfl rfl (Nat.le_of_ble_eq_true rfl) (Nat.le_of_ble_eq_true rfl) (sh_o sN24 kk468 (by decide)) (Call.mono ((h19.1 c22) N23 hN42 sN24) (Nat.le_refl _) ?_)
        rintro _ M26 ⟨rfl, s29, h27⟩
        refine ⟨rfl, ?_⟩
        refine r_aload_n dX11_compare_43 rfl ?_
        refine r_iload_n dX11_compare_44 rfl ?_
        refine r_bipush dX11_compare_45 (by decide) ?_
        have K44 : Run (e + 1) mX11_compare 68 [some (vR 468), some (vI z17)] [vI (if z17 ≠ (61 : Int) then (if z17 ≠ (60 : Int) then (8 : Int) else (7 : Int)) else (6 : Int)), vR 468] M26 Q := by
          have K46 : ∀ v30 : Int, v30 = ((if z17 ≠ (61 : Int) then (if z17 ≠ (60 : Int) then (8 : Int) else (7 : Int)) else (6 : Int))) → Run (e + 1) mX11_compare 68 [some (vR 468), some (vI z17)] [vI v30, vR 468] M26 Q := by
            intro v30 hv45
            refine r_iconst dX11_compare_68 (by decide) ?_
            refine r_invV_v dX11_compare_69 kM11_148 (by decide) (Nat.le_of_ble_eq_true rfl) rfl rfl (Nat.le_of_ble_eq_true rfl) (Nat.le_of_ble_eq_true rfl) (sh_o s29 kk468 (by decide)) (Call.mono (h27 v30 hv45) (Nat.le_refl _) ?_)
            rintro _ M32 ⟨rfl, s35, h33⟩
            refine ⟨rfl, ?_⟩
            exact r_vret dX11_compare_72 rfl h33
          exact K46 _ rfl
        refine r_icmp_ne dX11_compare_47 rfl (fun q47 => ?_) (fun q47 => ?_)
        · rw [if_pos q47] at K44
          refine r_iload_n dX11_compare_55 rfl ?_
          refine r_bipush dX11_compare_56 (by decide) ?_
          refine r_icmp_ne dX11_compare_58 rfl (fun q49 => ?_) (fun q49 => ?_)
          · rw [if_pos q49] at K44
            refine r_bipush dX11_compare_66 (by decide) ?_
            exact K44
          · rw [if_neg q49] at K44
            refine r_bipush dX11_compare_61 (by decide) ?_
            refine r_goto (tgt := 68) dX11_compare_63 rfl ?_
            exact K44
        · rw [if_neg q47] at K44
          refine r_bipush dX11_compare_50 (by decide) ?_
          refine r_goto (tgt := 68) dX11_compare_52 rfl ?_
          exact K44
      exact K43 _ rfl
    · refine r_aload_n dX11_compare_24 rfl ?_
      refine r_invV_v dX11_compare_25 kM11_135 (by decide) (Nat.le_of_ble_eq_true rfl) rfl rfl (Nat.le_of_ble_eq_true rfl) (Nat.le_of_ble_eq_true rfl) (sh_o s21 kk468 (by decide)) (m_bad (by omega) s21 ⟨rfl, ?_⟩)
      have K52 : ∀ N36 : jM, N36 = (si M18 468 4 (if iv M18 468 4 = -1 then iv M18 468 3 else iv M18 468 4)) → Run (e + 1) mX11_compare 28 [some (vR 468), some (vI z17)] [] N36 Q := by
        intro N36 hN51
        have sN37 : Shp N36 := by rw [hN51]; exact s21
        exact r_vret dX11_compare_28 rfl ((h19.2 c22) N36 hN51 sN37)
      exact K52 _ rfl
theorem vn_unit {e : Nat} {M : jM} {Q : Option jV → jM → Prop}  (he : 6 ≤ e) (hS : Shp M)
  (h : Call e mX11_look [vR 468] M (fun r4 M2 => ∃ z1 : Int, r4 = some (vI z1) ∧ Shp M2 ∧ (((z1 ≠ (33 : Int)) → (((z1 ≠ (40 : Int)) → (Call e mX11_sum [vR 468] M2 (fun r11 M9 => r11 = none ∧ Shp M9 ∧ ((((iv M9 468 4) ≠ (-1 : Int)) → (Q none M9)) ∧ (¬ ((iv M9 468 4) ≠ (-1 : Int)) → (Call e mX11_compare [vR 468] M9 (fun r17 M15 => r17 = none ∧ Shp M15 ∧ (Q none M15)))))))) ∧ (¬ (z1 ≠ (40 : Int)) → (Call e mX11_opens [vR 468] M2 (fun r22 M20 => r22 = none ∧ Shp M20 ∧ ((((iv M20 468 4) ≠ (-1 : Int)) → (Q none M20)) ∧ (¬ ((iv M20 468 4) ≠ (-1 : Int)) → (Call e mX11_condition [vR 468] M20 (fun r28 M26 => r28 = none ∧ Shp M26 ∧ (Call e mX11_closes [vR 468, vI (41 : Int)] M26 (fun r33 M31 => r33 = none ∧ Shp M31 ∧ (Q none M31)))))))))))) ∧ (¬ (z1 ≠ (33 : Int)) → (Call e mX11_opens [vR 468] M2 (fun r38 M36 => r38 = none ∧ Shp M36 ∧ ((((iv M36 468 4) ≠ (-1 : Int)) → (Q none M36)) ∧ (¬ ((iv M36 468 4) ≠ (-1 : Int)) → (Call e mX11_unit [vR 468] M36 (fun r44 M42 => r44 = none ∧ Shp M42 ∧ (Call e mX11_put [vR 468, vI (9 : Int), vI (0 : Int)] M42 (fun r49 M47 => r49 = none ∧ Shp M47 ∧ (∀ N51 : jM, N51 = (si M47 468 5 (w32 ((iv M47 468 5) - (1 : Int)))) → Shp N51 → (Q none N51)))))))))))))) :
  Call (e + 1) mX11_unit [vR 468] M Q := by
  show Run (e + 1) mX11_unit 0 [some (vR 468), none] [] M Q
  refine r_aload_n dX11_unit_0 rfl ?_
  refine r_invV_i dX11_unit_1 kM11_138 (by decide) (Nat.le_of_ble_eq_true rfl) rfl rfl (Nat.le_of_ble_eq_true rfl) (Nat.le_of_ble_eq_true rfl) (sh_o hS kk468 (by decide)) (Call.mono h (Nat.le_refl _) ?_)
  rintro _ M2 ⟨z1, rfl, s5, h3⟩
  refine ⟨_, rfl, ?_⟩
  refine r_istore_n (ls2 := [some (vR 468), some (vI z1)]) dX11_unit_4 (Nat.le_of_ble_eq_true rfl) rfl ?_
  refine r_iload_n dX11_unit_5 rfl ?_
  refine r_bipush dX11_unit_6 (by decide) ?_
  refine r_icmp_ne dX11_unit_8 rfl (fun c6 => ?_) (fun c6 => ?_)
  · refine r_iload_n dX11_unit_47 rfl ?_
    refine r_bipush dX11_unit_48 (by decide) ?_
    refine r_icmp_ne dX11_unit_50 rfl (fun c7 => ?_) (fun c7 => ?_)
    · refine r_aload_n dX11_unit_78 rfl ?_
      refine r_invV_v dX11_unit_79 kM11_159 (by decide) (Nat.le_of_ble_eq_true rfl) rfl rfl (Nat.le_of_ble_eq_true rfl) (Nat.le_of_ble_eq_true rfl) (sh_o s5 kk468 (by decide)) (Call.mono ((h3.1 c6).1 c7) (Nat.le_refl _) ?_)
      rintro _ M9 ⟨rfl, s12, h10⟩
      refine ⟨rfl, ?_⟩
      refine r_aload_n dX11_unit_82 rfl ?_
      refine r_get0 dX11_unit_83 kF11_126 (sh_o s12 kk468 (by decide)) ?_
      refine r_iconst dX11_unit_86 (by decide) ?_
      refine r_icmp_ne dX11_unit_87 rfl (fun c13 => ?_) (fun c13 => ?_)
      · exact r_vret dX11_unit_94 rfl (h10.1 c13)
      · refine r_aload_n dX11_unit_90 rfl ?_
        refine r_invV_v dX11_unit_91 kM11_181 (by decide) (Nat.le_of_ble_eq_true rfl) rfl rfl (Nat.le_of_ble_eq_true rfl) (Nat.le_of_ble_eq_true rfl) (sh_o s12 kk468 (by decide)) (Call.mono (h10.2 c13) (Nat.le_refl _) ?_)
        rintro _ M15 ⟨rfl, s18, h16⟩
        refine ⟨rfl, ?_⟩
        exact r_vret dX11_unit_94 rfl h16
    · refine r_aload_n dX11_unit_53 rfl ?_
      refine r_invV_v dX11_unit_54 kM11_156 (by decide) (Nat.le_of_ble_eq_true rfl) rfl rfl (Nat.le_of_ble_eq_true rfl) (Nat.le_of_ble_eq_true rfl) (sh_o s5 kk468 (by decide)) (Call.mono ((h3.1 c6).2 c7) (Nat.le_refl _) ?_)
      rintro _ M20 ⟨rfl, s23, h21⟩
      refine ⟨rfl, ?_⟩
      refine r_aload_n dX11_unit_57 rfl ?_
      refine r_get0 dX11_unit_58 kF11_126 (sh_o s23 kk468 (by decide)) ?_
      refine r_iconst dX11_unit_61 (by decide) ?_
      refine r_icmp_ne dX11_unit_62 rfl (fun c24 => ?_) (fun c24 => ?_)
      · exact r_vret dX11_unit_94 rfl (h21.1 c24)
      · refine r_aload_n dX11_unit_65 rfl ?_
        refine r_invV_v dX11_unit_66 kM11_178 (by decide) (Nat.le_of_ble_eq_true rfl) rfl rfl (Nat.le_of_ble_eq_true rfl) (Nat.le_of_ble_eq_true rfl) (sh_o s23 kk468 (by decide)) (Call.mono (h21.2 c24) (Nat.le_refl _) ?_)
        rintro _ M26 ⟨rfl, s29, h27⟩
        refine ⟨rfl, ?_⟩
        refine r_aload_n dX11_unit_69 rfl ?_
        refine r_bipush dX11_unit_70 (by decide) ?_
        refine r_invV_v dX11_unit_72 kM11_162 (by decide) (Nat.le_of_ble_eq_true rfl) rfl rfl (Nat.le_of_ble_eq_true rfl) (Nat.le_of_ble_eq_true rfl) (sh_o s29 kk468 (by decide)) (Call.mono h27 (Nat.le_refl _) ?_)
        rintro _ M31 ⟨rfl, s34, h32⟩
        refine ⟨rfl, ?_⟩
        refine r_goto (tgt := 94) dX11_unit_75 rfl ?_
        exact r_vret dX11_unit_94 rfl h32
  · refine r_aload_n dX11_unit_11 rfl ?_
    refine r_invV_v dX11_unit_12 kM11_156 (by decide) (Nat.le_of_ble_eq_true rfl) rfl rfl (Nat.le_of_ble_eq_true rfl) (Nat.le_of_ble_eq_true rfl) (sh_o s5 kk468 (by decide)) (Call.mono (h3.2 c6) (Nat.le_refl _) ?_)
    rintro _ M36 ⟨rfl, s39, h37⟩
    refine ⟨rfl, ?_⟩
    refine r_aload_n dX11_unit_15 rfl ?_
    refine r_get0 dX11_unit_16 kF11_126 (sh_o s39 kk468 (by decide)) ?_
    refine r_iconst dX11_unit_19 (by decide) ?_
    refine r_icmp_ne dX11_unit_20 rfl (fun c40 => ?_) (fun c40 => ?_)
    · exact r_vret dX11_unit_94 rfl (h37.1 c40)
    · refine r_aload_n dX11_unit_23 rfl ?_
      refine r_invV_v dX11_unit_24 kM11_175 (by decide) (Nat.le_of_ble_eq_true rfl) rfl rfl (Nat.le_of_ble_eq_true rfl) (Nat.le_of_ble_eq_true rfl) (sh_o s39 kk468 (by decide)) (Call.mono (h37.2 c40) (Nat.le_refl _) ?_)
      rintro _ M42 ⟨rfl, s45, h43⟩
      refine ⟨rfl, ?_⟩
      refine r_aload_n dX11_unit_27 rfl ?_
      refine r_bipush dX11_unit_28 (by decide) ?_
      refine r_iconst dX11_unit_30 (by decide) ?_
      refine r_invV_v dX11_unit_31 kM11_148 (by decide) (Nat.le_of_ble_eq_true rfl) rfl rfl (Nat.le_of_ble_eq_true rfl) (Nat.le_of_ble_eq_true rfl) (sh_o s45 kk468 (by decide)) (Call.mono h43 (Nat.le_refl _) ?_)
      rintro _ M47 ⟨rfl, s50, h48⟩
      refine ⟨rfl, ?_⟩
      refine r_aload_n dX11_unit_34 rfl ?_
      refine r_dupR dX11_unit_35 ?_
      refine r_get0 dX11_unit_36 kF11_132 (sh_o s50 kk468 (by decide)) ?_
      refine r_iconst dX11_unit_39 (by decide) ?_
      refine r_isub dX11_unit_40 ?_
      refine r_put0 dX11_unit_41 kF11_132 (sh_o s50 kk468 (by decide)) (Or.inl rfl) ?_
      have K54 : ∀ N51 : jM, N51 = (si M47 468 5 (w32 ((iv M47 468 5) - (1 : Int)))) → Run (e + 1) mX11_unit 44 [some (vR 468), some (vI z1)] [] N51 Q := by
        intro N51 hN53
        have sN52 : Shp N51 := by rw [hN53]; exact s50
        refine r_goto (tgt := 94) dX11_unit_44 rfl ?_
        exact r_vret dX11_unit_94 rfl (h48 N51 hN53 sN52)
      exact K54 _ rfl
theorem vn_goOnAnd {e : Nat} {M : jM} {Q : Option jV → jM → Prop}  (he : 6 ≤ e) (hS : Shp M)
  (h : (((iv M 468 4) ≠ (-1 : Int)) → (Q none M)) ∧ (¬ ((iv M 468 4) ≠ (-1 : Int)) → (Call e mX11_look [vR 468] M (fun r5 M3 => ∃ z2 : Int, r5 = some (vI z2) ∧ Shp M3 ∧ (((z2 ≠ (38 : Int)) → (Q none M3)) ∧ (¬ (z2 ≠ (38 : Int)) → (∀ N8 : jM, N8 = (si M3 468 3 (w32 ((iv M3 468 3) + (1 : Int)))) → Shp N8 → (Call e mX11_unit [vR 468] N8 (fun r13 M11 => r13 = none ∧ Shp M11 ∧ (Call e mX11_put [vR 468, vI (10 : Int), vI (0 : Int)] M11 (fun r18 M16 => r18 = none ∧ Shp M16 ∧ (Run (e + 1) mX11_goOnAnd 0 [some (vR 468)] [] M16 Q)))))))))))) :
  Call (e + 1) mX11_goOnAnd [vR 468] M Q := by
  show Run (e + 1) mX11_goOnAnd 0 [some (vR 468)] [] M Q
  refine r_aload_n dX11_goOnAnd_0 rfl ?_
  refine r_get0 dX11_goOnAnd_1 kF11_126 (sh_o hS kk468 (by decide)) ?_
  refine r_iconst dX11_goOnAnd_4 (by decide) ?_
  refine r_icmp_ne dX11_goOnAnd_5 rfl (fun c1 => ?_) (fun c1 => ?_)
  · exact r_vret dX11_goOnAnd_41 rfl (h.1 c1)
  · refine r_aload_n dX11_goOnAnd_8 rfl ?_
    refine r_invV_i dX11_goOnAnd_9 kM11_138 (by decide) (Nat.le_of_ble_eq_true rfl) rfl rfl (Nat.le_of_ble_eq_true rfl) (Nat.le_of_ble_eq_true rfl) (sh_o hS kk468 (by decide)) (Call.mono (h.2 c1) (Nat.le_refl _) ?_)
    rintro _ M3 ⟨z2, rfl, s6, h4⟩
    refine ⟨_, rfl, ?_⟩
    refine r_bipush dX11_goOnAnd_12 (by decide) ?_
    refine r_icmp_ne dX11_goOnAnd_14 rfl (fun c7 => ?_) (fun c7 => ?_)
    · exact r_vret dX11_goOnAnd_41 rfl (h4.1 c7)
    · refine r_aload_n dX11_goOnAnd_17 rfl ?_
      refine r_dupR dX11_goOnAnd_18 ?_
      refine r_get0 dX11_goOnAnd_19 kF11_119 (sh_o s6 kk468 (by decide)) ?_
      refine r_iconst dX11_goOnAnd_22 (by decide) ?_
      refine r_iadd dX11_goOnAnd_23 ?_
      refine r_put0 dX11_goOnAnd_24 kF11_119 (sh_o s6 kk468 (by decide)) (Or.inl rfl) ?_
      have K21 : ∀ N8 : jM, N8 = (si M3 468 3 (w32 ((iv M3 468 3) + (1 : Int)))) → Run (e + 1) mX11_goOnAnd 27 [some (vR 468)] [] N8 Q := by
        intro N8 hN20
        have sN9 : Shp N8 := by rw [hN20]; exact s6
        refine r_aload_n dX11_goOnAnd_27 rfl ?_
        refine r_invV_v dX11_goOnAnd_28 kM11_175 (by decide) (Nat.le_of_ble_eq_true rfl) rfl rfl (Nat.le_of_ble_eq_true rfl) (Nat.le_of_ble_eq_true rfl) (sh_o sN9 kk468 (by decide)) (Call.mono ((h4.2 c7) N8 hN20 sN9) (Nat.le_refl _) ?_)
        rintro _ M11 ⟨rfl, s14, h12⟩
        refine ⟨rfl, ?_⟩
        refine r_aload_n dX11_goOnAnd_31 rfl ?_
        refine r_bipush dX11_goOnAnd_32 (by decide) ?_
        refine r_iconst dX11_goOnAnd_34 (by decide) ?_
        refine r_invV_v dX11_goOnAnd_35 kM11_148 (by decide) (Nat.le_of_ble_eq_true rfl) rfl rfl (Nat.le_of_ble_eq_true rfl) (Nat.le_of_ble_eq_true rfl) (sh_o s14 kk468 (by decide)) (Call.mono h12 (Nat.le_refl _) ?_)
        rintro _ M16 ⟨rfl, s19, h17⟩
        refine ⟨rfl, ?_⟩
        refine r_goto (tgt := 0) dX11_goOnAnd_38 rfl ?_
        exact h17
      exact K21 _ rfl
theorem vn_goOnAnd_0 {e : Nat} {M : jM} {Q : Option jV → jM → Prop}   (he : 6 ≤ e) (hS : Shp M)
  (h : (((iv M 468 4) ≠ (-1 : Int)) → (Q none M)) ∧ (¬ ((iv M 468 4) ≠ (-1 : Int)) → (Call e mX11_look [vR 468] M (fun r26 M24 => ∃ z23 : Int, r26 = some (vI z23) ∧ Shp M24 ∧ (((z23 ≠ (38 : Int)) → (Q none M24)) ∧ (¬ (z23 ≠ (38 : Int)) → (∀ N29 : jM, N29 = (si M24 468 3 (w32 ((iv M24 468 3) + (1 : Int)))) → Shp N29 → (Call e mX11_unit [vR 468] N29 (fun r34 M32 => r34 = none ∧ Shp M32 ∧ (Call e mX11_put [vR 468, vI (10 : Int), vI (0 : Int)] M32 (fun r39 M37 => r39 = none ∧ Shp M37 ∧ (Run (e + 1) mX11_goOnAnd 0 [some (vR 468)] [] M37 Q)))))))))))) :
  Run (e + 1) mX11_goOnAnd 0 [some (vR 468)] [] M Q := by
  refine r_aload_n dX11_goOnAnd_0 rfl ?_
  refine r_get0 dX11_goOnAnd_1 kF11_126 (sh_o hS kk468 (by decide)) ?_
  refine r_iconst dX11_goOnAnd_4 (by decide) ?_
  refine r_icmp_ne dX11_goOnAnd_5 rfl (fun c22 => ?_) (fun c22 => ?_)
  · exact r_vret dX11_goOnAnd_41 rfl (h.1 c22)
  · refine r_aload_n dX11_goOnAnd_8 rfl ?_
    refine r_invV_i dX11_goOnAnd_9 kM11_138 (by decide) (Nat.le_of_ble_eq_true rfl) rfl rfl (Nat.le_of_ble_eq_true rfl) (Nat.le_of_ble_eq_true rfl) (sh_o hS kk468 (by decide)) (Call.mono (h.2 c22) (Nat.le_refl _) ?_)
    rintro _ M24 ⟨z23, rfl, s27, h25⟩
    refine ⟨_, rfl, ?_⟩
    refine r_bipush dX11_goOnAnd_12 (by decide) ?_
    refine r_icmp_ne dX11_goOnAnd_14 rfl (fun c28 => ?_) (fun c28 => ?_)
    · exact r_vret dX11_goOnAnd_41 rfl (h25.1 c28)
    · refine r_aload_n dX11_goOnAnd_17 rfl ?_
      refine r_dupR dX11_goOnAnd_18 ?_
      refine r_get0 dX11_goOnAnd_19 kF11_119 (sh_o s27 kk468 (by decide)) ?_
      refine r_iconst dX11_goOnAnd_22 (by decide) ?_
      refine r_iadd dX11_goOnAnd_23 ?_
      refine r_put0 dX11_goOnAnd_24 kF11_119 (sh_o s27 kk468 (by decide)) (Or.inl rfl) ?_
      have K42 : ∀ N29 : jM, N29 = (si M24 468 3 (w32 ((iv M24 468 3) + (1 : Int)))) → Run (e + 1) mX11_goOnAnd 27 [some (vR 468)] [] N29 Q := by
        intro N29 hN41
        have sN30 : Shp N29 := by rw [hN41]; exact s27
        refine r_aload_n dX11_goOnAnd_27 rfl ?_
        refine r_invV_v dX11_goOnAnd_28 kM11_175 (by decide) (Nat.le_of_ble_eq_true rfl) rfl rfl (Nat.le_of_ble_eq_true rfl) (Nat.le_of_ble_eq_true rfl) (sh_o sN30 kk468 (by decide)) (Call.mono ((h25.2 c28) N29 hN41 sN30) (Nat.le_refl _) ?_)
        rintro _ M32 ⟨rfl, s35, h33⟩
        refine ⟨rfl, ?_⟩
        refine r_aload_n dX11_goOnAnd_31 rfl ?_
        refine r_bipush dX11_goOnAnd_32 (by decide) ?_
        refine r_iconst dX11_goOnAnd_34 (by decide) ?_
        refine r_invV_v dX11_goOnAnd_35 kM11_148 (by decide) (Nat.le_of_ble_eq_true rfl) rfl rfl (Nat.le_of_ble_eq_true rfl) (Nat.le_of_ble_eq_true rfl) (sh_o s35 kk468 (by decide)) (Call.mono h33 (Nat.le_refl _) ?_)
        rintro _ M37 ⟨rfl, s40, h38⟩
        refine ⟨rfl, ?_⟩
        refine r_goto (tgt := 0) dX11_goOnAnd_38 rfl ?_
        exact h38
      exact K42 _ rfl
theorem vn_goOnOr {e : Nat} {M : jM} {Q : Option jV → jM → Prop}  (he : 6 ≤ e) (hS : Shp M)
  (h : (((iv M 468 4) ≠ (-1 : Int)) → (Q none M)) ∧ (¬ ((iv M 468 4) ≠ (-1 : Int)) → (Call e mX11_look [vR 468] M (fun r5 M3 => ∃ z2 : Int, r5 = some (vI z2) ∧ Shp M3 ∧ (((z2 ≠ (124 : Int)) → (Q none M3)) ∧ (¬ (z2 ≠ (124 : Int)) → (∀ N8 : jM, N8 = (si M3 468 3 (w32 ((iv M3 468 3) + (1 : Int)))) → Shp N8 → (Call e mX11_unit [vR 468] N8 (fun r13 M11 => r13 = none ∧ Shp M11 ∧ (Call e mX11_goOnAnd [vR 468] M11 (fun r18 M16 => r18 = none ∧ Shp M16 ∧ (Call e mX11_put [vR 468, vI (11 : Int), vI (0 : Int)] M16 (fun r23 M21 => r23 = none ∧ Shp M21 ∧ (Run (e + 1) mX11_goOnOr 0 [some (vR 468)] [] M21 Q)))))))))))))) :
  Call (e + 1) mX11_goOnOr [vR 468] M Q := by
  show Run (e + 1) mX11_goOnOr 0 [some (vR 468)] [] M Q
  refine r_aload_n dX11_goOnOr_0 rfl ?_
  refine r_get0 dX11_goOnOr_1 kF11_126 (sh_o hS kk468 (by decide)) ?_
  refine r_iconst dX11_goOnOr_4 (by decide) ?_
  refine r_icmp_ne dX11_goOnOr_5 rfl (fun c1 => ?_) (fun c1 => ?_)
  · exact r_vret dX11_goOnOr_45 rfl (h.1 c1)
  · refine r_aload_n dX11_goOnOr_8 rfl ?_
    refine r_invV_i dX11_goOnOr_9 kM11_138 (by decide) (Nat.le_of_ble_eq_true rfl) rfl rfl (Nat.le_of_ble_eq_true rfl) (Nat.le_of_ble_eq_true rfl) (sh_o hS kk468 (by decide)) (Call.mono (h.2 c1) (Nat.le_refl _) ?_)
    rintro _ M3 ⟨z2, rfl, s6, h4⟩
    refine ⟨_, rfl, ?_⟩
    refine r_bipush dX11_goOnOr_12 (by decide) ?_
    refine r_icmp_ne dX11_goOnOr_14 rfl (fun c7 => ?_) (fun c7 => ?_)
    · exact r_vret dX11_goOnOr_45 rfl (h4.1 c7)
    · refine r_aload_n dX11_goOnOr_17 rfl ?_
      refine r_dupR dX11_goOnOr_18 ?_
      refine r_get0 dX11_goOnOr_19 kF11_119 (sh_o s6 kk468 (by decide)) ?_
      refine r_iconst dX11_goOnOr_22 (by decide) ?_
      refine r_iadd dX11_goOnOr_23 ?_
      refine r_put0 dX11_goOnOr_24 kF11_119 (sh_o s6 kk468 (by decide)) (Or.inl rfl) ?_
      have K26 : ∀ N8 : jM, N8 = (si M3 468 3 (w32 ((iv M3 468 3) + (1 : Int)))) → Run (e + 1) mX11_goOnOr 27 [some (vR 468)] [] N8 Q := by
        intro N8 hN25
        have sN9 : Shp N8 := by rw [hN25]; exact s6
        refine r_aload_n dX11_goOnOr_27 rfl ?_
        refine r_invV_v dX11_goOnOr_28 kM11_175 (by decide) (Nat.le_of_ble_eq_true rfl) rfl rfl (Nat.le_of_ble_eq_true rfl) (Nat.le_of_ble_eq_true rfl) (sh_o sN9 kk468 (by decide)) (Call.mono ((h4.2 c7) N8 hN25 sN9) (Nat.le_refl _) ?_)
        rintro _ M11 ⟨rfl, s14, h12⟩
        refine ⟨rfl, ?_⟩
        refine r_aload_n dX11_goOnOr_31 rfl ?_
        refine r_invV_v dX11_goOnOr_32 kM11_184 (by decide) (Nat.le_of_ble_eq_true rfl) rfl rfl (Nat.le_of_ble_eq_true rfl) (Nat.le_of_ble_eq_true rfl) (sh_o s14 kk468 (by decide)) (Call.mono h12 (Nat.le_refl _) ?_)
        rintro _ M16 ⟨rfl, s19, h17⟩
        refine ⟨rfl, ?_⟩
        refine r_aload_n dX11_goOnOr_35 rfl ?_
        refine r_bipush dX11_goOnOr_36 (by decide) ?_
        refine r_iconst dX11_goOnOr_38 (by decide) ?_
        refine r_invV_v dX11_goOnOr_39 kM11_148 (by decide) (Nat.le_of_ble_eq_true rfl) rfl rfl (Nat.le_of_ble_eq_true rfl) (Nat.le_of_ble_eq_true rfl) (sh_o s19 kk468 (by decide)) (Call.mono h17 (Nat.le_refl _) ?_)
        rintro _ M21 ⟨rfl, s24, h22⟩
        refine ⟨rfl, ?_⟩
        refine r_goto (tgt := 0) dX11_goOnOr_42 rfl ?_
        exact h22
      exact K26 _ rfl
theorem vn_goOnOr_0 {e : Nat} {M : jM} {Q : Option jV → jM → Prop}   (he : 6 ≤ e) (hS : Shp M)
  (h : (((iv M 468 4) ≠ (-1 : Int)) → (Q none M)) ∧ (¬ ((iv M 468 4) ≠ (-1 : Int)) → (Call e mX11_look [vR 468] M (fun r31 M29 => ∃ z28 : Int, r31 = some (vI z28) ∧ Shp M29 ∧ (((z28 ≠ (124 : Int)) → (Q none M29)) ∧ (¬ (z28 ≠ (124 : Int)) → (∀ N34 : jM, N34 = (si M29 468 3 (w32 ((iv M29 468 3) + (1 : Int)))) → Shp N34 → (Call e mX11_unit [vR 468] N34 (fun r39 M37 => r39 = none ∧ Shp M37 ∧ (Call e mX11_goOnAnd [vR 468] M37 (fun r44 M42 => r44 = none ∧ Shp M42 ∧ (Call e mX11_put [vR 468, vI (11 : Int), vI (0 : Int)] M42 (fun r49 M47 => r49 = none ∧ Shp M47 ∧ (Run (e + 1) mX11_goOnOr 0 [some (vR 468)] [] M47 Q)))))))))))))) :
  Run (e + 1) mX11_goOnOr 0 [some (vR 468)] [] M Q := by
  refine r_aload_n dX11_goOnOr_0 rfl ?_
  refine r_get0 dX11_goOnOr_1 kF11_126 (sh_o hS kk468 (by decide)) ?_
  refine r_iconst dX11_goOnOr_4 (by decide) ?_
  refine r_icmp_ne dX11_goOnOr_5 rfl (fun c27 => ?_) (fun c27 => ?_)
  · exact r_vret dX11_goOnOr_45 rfl (h.1 c27)
  · refine r_aload_n dX11_goOnOr_8 rfl ?_
    refine r_invV_i dX11_goOnOr_9 kM11_138 (by decide) (Nat.le_of_ble_eq_true rfl) rfl rfl (Nat.le_of_ble_eq_true rfl) (Nat.le_of_ble_eq_true rfl) (sh_o hS kk468 (by decide)) (Call.mono (h.2 c27) (Nat.le_refl _) ?_)
    rintro _ M29 ⟨z28, rfl, s32, h30⟩
    refine ⟨_, rfl, ?_⟩
    refine r_bipush dX11_goOnOr_12 (by decide) ?_
    refine r_icmp_ne dX11_goOnOr_14 rfl (fun c33 => ?_) (fun c33 => ?_)
    · exact r_vret dX11_goOnOr_45 rfl (h30.1 c33)
    · refine r_aload_n dX11_goOnOr_17 rfl ?_
      refine r_dupR dX11_goOnOr_18 ?_
      refine r_get0 dX11_goOnOr_19 kF11_119 (sh_o s32 kk468 (by decide)) ?_
      refine r_iconst dX11_goOnOr_22 (by decide) ?_
      refine r_iadd dX11_goOnOr_23 ?_
      refine r_put0 dX11_goOnOr_24 kF11_119 (sh_o s32 kk468 (by decide)) (Or.inl rfl) ?_
      have K52 : ∀ N34 : jM, N34 = (si M29 468 3 (w32 ((iv M29 468 3) + (1 : Int)))) → Run (e + 1) mX11_goOnOr 27 [some (vR 468)] [] N34 Q := by
        intro N34 hN51
        have sN35 : Shp N34 := by rw [hN51]; exact s32
        refine r_aload_n dX11_goOnOr_27 rfl ?_
        refine r_invV_v dX11_goOnOr_28 kM11_175 (by decide) (Nat.le_of_ble_eq_true rfl) rfl rfl (Nat.le_of_ble_eq_true rfl) (Nat.le_of_ble_eq_true rfl) (sh_o sN35 kk468 (by decide)) (Call.mono ((h30.2 c33) N34 hN51 sN35) (Nat.le_refl _) ?_)
        rintro _ M37 ⟨rfl, s40, h38⟩
        refine ⟨rfl, ?_⟩
        refine r_aload_n dX11_goOnOr_31 rfl ?_
        refine r_invV_v dX11_goOnOr_32 kM11_184 (by decide) (Nat.le_of_ble_eq_true rfl) rfl rfl (Nat.le_of_ble_eq_true rfl) (Nat.le_of_ble_eq_true rfl) (sh_o s40 kk468 (by decide)) (Call.mono h38 (Nat.le_refl _) ?_)
        rintro _ M42 ⟨rfl, s45, h43⟩
        refine ⟨rfl, ?_⟩
        refine r_aload_n dX11_goOnOr_35 rfl ?_
        refine r_bipush dX11_goOnOr_36 (by decide) ?_
        refine r_iconst dX11_goOnOr_38 (by decide) ?_
        refine r_invV_v dX11_goOnOr_39 kM11_148 (by decide) (Nat.le_of_ble_eq_true rfl) rfl rfl (Nat.le_of_ble_eq_true rfl) (Nat.le_of_ble_eq_true rfl) (sh_o s45 kk468 (by decide)) (Call.mono h43 (Nat.le_refl _) ?_)
        rintro _ M47 ⟨rfl, s50, h48⟩
        refine ⟨rfl, ?_⟩
        refine r_goto (tgt := 0) dX11_goOnOr_42 rfl ?_
        exact h48
      exact K52 _ rfl
theorem vn_condition {e : Nat} {M : jM} {Q : Option jV → jM → Prop}  (he : 6 ≤ e) (hS : Shp M)
  (h : Call e mX11_unit [vR 468] M (fun r4 M2 => r4 = none ∧ Shp M2 ∧ (Call e mX11_goOnAnd [vR 468] M2 (fun r9 M7 => r9 = none ∧ Shp M7 ∧ (Call e mX11_goOnOr [vR 468] M7 (fun r14 M12 => r14 = none ∧ Shp M12 ∧ (Q none M12))))))) :
  Call (e + 1) mX11_condition [vR 468] M Q := by
  show Run (e + 1) mX11_condition 0 [some (vR 468)] [] M Q
  refine r_aload_n dX11_condition_0 rfl ?_
  refine r_invV_v dX11_condition_1 kM11_175 (by decide) (Nat.le_of_ble_eq_true rfl) rfl rfl (Nat.le_of_ble_eq_true rfl) (Nat.le_of_ble_eq_true rfl) (sh_o hS kk468 (by decide)) (Call.mono h (Nat.le_refl _) ?_)
  rintro _ M2 ⟨rfl, s5, h3⟩
  refine ⟨rfl, ?_⟩
  refine r_aload_n dX11_condition_4 rfl ?_
  refine r_invV_v dX11_condition_5 kM11_184 (by decide) (Nat.le_of_ble_eq_true rfl) rfl rfl (Nat.le_of_ble_eq_true rfl) (Nat.le_of_ble_eq_true rfl) (sh_o s5 kk468 (by decide)) (Call.mono h3 (Nat.le_refl _) ?_)
  rintro _ M7 ⟨rfl, s10, h8⟩
  refine ⟨rfl, ?_⟩
  refine r_aload_n dX11_condition_8 rfl ?_
  refine r_invV_v dX11_condition_9 kM11_187 (by decide) (Nat.le_of_ble_eq_true rfl) rfl rfl (Nat.le_of_ble_eq_true rfl) (Nat.le_of_ble_eq_true rfl) (sh_o s10 kk468 (by decide)) (Call.mono h8 (Nat.le_refl _) ?_)
  rintro _ M12 ⟨rfl, s15, h13⟩
  refine ⟨rfl, ?_⟩
  exact r_vret dX11_condition_12 rfl h13
theorem vn_clause {e : Nat} {M : jM} {Q : Option jV → jM → Prop}  (he : 6 ≤ e) (hS : Shp M)
  (h : (0 ≤ (iv M 468 14) ∧ (iv M 468 14) < 5) ∧ (∀ v2 : Int, v2 = (w32 ((w32 ((140 : Int) * (iv M 468 14))) + (iv M 473 (iv M 468 14).toNat))) → ((((iv M 468 4) ≠ (-1 : Int)) → (Run (e + 1) mX11_clause 40 [some (vR 468), some (vI v2), none] [] M Q)) ∧ (¬ ((iv M 468 4) ≠ (-1 : Int)) → (Call e mX11_look [vR 468] M (fun r7 M5 => ∃ z4 : Int, r7 = some (vI z4) ∧ Shp M5 ∧ (((z4 = (121 : Int)) → (Run (e + 1) mX11_clause 40 [some (vR 468), some (vI v2), none] [] M5 Q)) ∧ (¬ (z4 = (121 : Int)) → (∀ N10 : jM, N10 = (si M5 468 4 (if iv M5 468 4 = -1 then iv M5 468 3 else iv M5 468 4)) → Shp N10 → (Run (e + 1) mX11_clause 40 [some (vR 468), some (vI v2), none] [] N10 Q)))))))))) :
  Call (e + 1) mX11_clause [vR 468] M Q := by
  show Run (e + 1) mX11_clause 0 [some (vR 468), none, none] [] M Q
  refine r_sipush dX11_clause_0 (by decide) ?_
  refine r_aload_n dX11_clause_3 rfl ?_
  refine r_get0 dX11_clause_4 kF11_129 (sh_o hS kk468 (by decide)) ?_
  refine r_imul dX11_clause_7 ?_
  refine r_aload_n dX11_clause_8 rfl ?_
  refine r_getS (v := 473) dX11_clause_9 kF11_22 (sh_o hS kk468 (by decide)) (sh_f hS rr468_9 (by decide)) ?_
  refine r_aload_n dX11_clause_12 rfl ?_
  refine r_get0 dX11_clause_13 kF11_129 (sh_o hS kk468 (by decide)) ?_
  have ob1 := h.1
  refine r_iaload dX11_clause_16 (jro_ix (sh_r hS kk473 (by decide)) ob1) ?_
  refine r_iadd dX11_clause_17 ?_
  have K13 : ∀ v2 : Int, v2 = (w32 ((w32 ((140 : Int) * (iv M 468 14))) + (iv M 473 (iv M 468 14).toNat))) → Run (e + 1) mX11_clause 18 [some (vR 468), none, none] [vI v2] M Q := by
    intro v2 hv12
    refine r_istore_n (ls2 := [some (vR 468), some (vI v2), none]) dX11_clause_18 (Nat.le_of_ble_eq_true rfl) rfl ?_
    refine r_aload_n dX11_clause_19 rfl ?_
    refine r_get0 dX11_clause_20 kF11_126 (sh_o hS kk468 (by decide)) ?_
    refine r_iconst dX11_clause_23 (by decide) ?_
    refine r_icmp_ne dX11_clause_24 rfl (fun c3 => ?_) (fun c3 => ?_)
    · exact ((h.2 v2 hv12).1 c3)
    · refine r_aload_n dX11_clause_27 rfl ?_
      refine r_invV_i dX11_clause_28 kM11_138 (by decide) (Nat.le_of_ble_eq_true rfl) rfl rfl (Nat.le_of_ble_eq_true rfl) (Nat.le_of_ble_eq_true rfl) (sh_o hS kk468 (by decide)) (Call.mono ((h.2 v2 hv12).2 c3) (Nat.le_refl _) ?_)
      rintro _ M5 ⟨z4, rfl, s8, h6⟩
      refine ⟨_, rfl, ?_⟩
      refine r_bipush dX11_clause_31 (by decide) ?_
      refine r_icmp_eq dX11_clause_33 rfl (fun c9 => ?_) (fun c9 => ?_)
      · exact (h6.1 c9)
      · refine r_aload_n dX11_clause_36 rfl ?_
        refine r_invV_v dX11_clause_37 kM11_135 (by decide) (Nat.le_of_ble_eq_true rfl) rfl rfl (Nat.le_of_ble_eq_true rfl) (Nat.le_of_ble_eq_true rfl) (sh_o s8 kk468 (by decide)) (m_bad (by omega) s8 ⟨rfl, ?_⟩)
        have K15 : ∀ N10 : jM, N10 = (si M5 468 4 (if iv M5 468 4 = -1 then iv M5 468 3 else iv M5 468 4)) → Run (e + 1) mX11_clause 40 [some (vR 468), some (vI v2), none] [] N10 Q := by
          intro N10 hN14
          have sN11 : Shp N10 := by rw [hN14]; exact s8
          exact ((h6.2 c9) N10 hN14 sN11)
        exact K15 _ rfl
  exact K13 _ rfl
theorem vn_clause_40 {e : Nat} {M : jM} {Q : Option jV → jM → Prop} {l1 : Int} {l2 : Option jV}  (he : 6 ≤ e) (hS : Shp M)
  (h : ∀ N16 : jM, N16 = (si M 468 3 (w32 ((iv M 468 3) + (1 : Int)))) → Shp N16 → ((((iv N16 468 4) ≠ (-1 : Int)) → (Run (e + 1) mX11_clause 71 [some (vR 468), some (vI l1), l2] [] N16 Q)) ∧ (¬ ((iv N16 468 4) ≠ (-1 : Int)) → (Call e mX11_look [vR 468] N16 (fun r22 M20 => ∃ z19 : Int, r22 = some (vI z19) ∧ Shp M20 ∧ (((z19 = (58 : Int)) → (Run (e + 1) mX11_clause 71 [some (vR 468), some (vI l1), l2] [] M20 Q)) ∧ (¬ (z19 = (58 : Int)) → (∀ N25 : jM, N25 = (si M20 468 4 (if iv M20 468 4 = -1 then iv M20 468 3 else iv M20 468 4)) → Shp N25 → (Run (e + 1) mX11_clause 71 [some (vR 468), some (vI l1), l2] [] N25 Q))))))))) :
  Run (e + 1) mX11_clause 40 [some (vR 468), some (vI l1), l2] [] M Q := by
  refine r_aload_n dX11_clause_40 rfl ?_
  refine r_dupR dX11_clause_41 ?_
  refine r_get0 dX11_clause_42 kF11_119 (sh_o hS kk468 (by decide)) ?_
  refine r_iconst dX11_clause_45 (by decide) ?_
  refine r_iadd dX11_clause_46 ?_
  refine r_put0 dX11_clause_47 kF11_119 (sh_o hS kk468 (by decide)) (Or.inl rfl) ?_
  have K28 : ∀ N16 : jM, N16 = (si M 468 3 (w32 ((iv M 468 3) + (1 : Int)))) → Run (e + 1) mX11_clause 50 [some (vR 468), some (vI l1), l2] [] N16 Q := by
    intro N16 hN27
    have sN17 : Shp N16 := by rw [hN27]; exact hS
    refine r_aload_n dX11_clause_50 rfl ?_
    refine r_get0 dX11_clause_51 kF11_126 (sh_o sN17 kk468 (by decide)) ?_
    refine r_iconst dX11_clause_54 (by decide) ?_
    refine r_icmp_ne dX11_clause_55 rfl (fun c18 => ?_) (fun c18 => ?_)
    · exact ((h N16 hN27 sN17).1 c18)
    · refine r_aload_n dX11_clause_58 rfl ?_
      refine r_invV_i dX11_clause_59 kM11_138 (by decide) (Nat.le_of_ble_eq_true rfl) rfl rfl (Nat.le_of_ble_eq_true rfl) (Nat.le_of_ble_eq_true rfl) (sh_o sN17 kk468 (by decide)) (Call.mono ((h N16 hN27 sN17).2 c18) (Nat.le_refl _) ?_)
      rintro _ M20 ⟨z19, rfl, s23, h21⟩
      refine ⟨_, rfl, ?_⟩
      refine r_bipush dX11_clause_62 (by decide) ?_
      refine r_icmp_eq dX11_clause_64 rfl (fun c24 => ?_) (fun c24 => ?_)
      · exact (h21.1 c24)
      · refine r_aload_n dX11_clause_67 rfl ?_
        refine r_invV_v dX11_clause_68 kM11_135 (by decide) (Nat.le_of_ble_eq_true rfl) rfl rfl (Nat.le_of_ble_eq_true rfl) (Nat.le_of_ble_eq_true rfl) (sh_o s23 kk468 (by decide)) (m_bad (by omega) s23 ⟨rfl, ?_⟩)
        have K30 : ∀ N25 : jM, N25 = (si M20 468 4 (if iv M20 468 4 = -1 then iv M20 468 3 else iv M20 468 4)) → Run (e + 1) mX11_clause 71 [some (vR 468), some (vI l1), l2] [] N25 Q := by
          intro N25 hN29
          have sN26 : Shp N25 := by rw [hN29]; exact s23
          exact ((h21.2 c24) N25 hN29 sN26)
        exact K30 _ rfl
  exact K28 _ rfl
theorem vn_clause_71 {e : Nat} {M : jM} {Q : Option jV → jM → Prop} {l1 : Int} {l2 : Option jV}  (he : 6 ≤ e) (hS : Shp M)
  (h : ∀ N31 : jM, N31 = (si M 468 3 (w32 ((iv M 468 3) + (1 : Int)))) → Shp N31 → ((((iv N31 468 4) = (-1 : Int)) → ((0 ≤ (iv N31 468 14) ∧ (iv N31 468 14) < 5) ∧ ((0 ≤ l1 ∧ l1 < 700) ∧ (∀ N36 : jM, N36 = (si N31 474 (l1).toNat (iv N31 472 (iv N31 468 14).toNat)) → Shp N36 → (Call e mX11_look [vR 468] N36 (fun r41 M39 => ∃ z38 : Int, r41 = some (vI z38) ∧ Shp M39 ∧ (((z38 = (33 : Int)) → (Run (e + 1) mX11_clause 129 [some (vR 468), some (vI l1), some (vI (1 : Int))] [] M39 Q)) ∧ (¬ (z38 = (33 : Int)) → (Call e mX11_look [vR 468] M39 (fun r47 M45 => ∃ z44 : Int, r47 = some (vI z44) ∧ Shp M45 ∧ (Run (e + 1) mX11_clause 129 [some (vR 468), some (vI l1), some (vI (if z44 ≠ (40 : Int) then (0 : Int) else (1 : Int)))] [] M45 Q))))))))))) ∧ (¬ ((iv N31 468 4) = (-1 : Int)) → (Q none N31)))) :
  Run (e + 1) mX11_clause 71 [some (vR 468), some (vI l1), l2] [] M Q := by
  refine r_aload_n dX11_clause_71 rfl ?_
  refine r_dupR dX11_clause_72 ?_
  refine r_get0 dX11_clause_73 kF11_119 (sh_o hS kk468 (by decide)) ?_
  refine r_iconst dX11_clause_76 (by decide) ?_
  refine r_iadd dX11_clause_77 ?_
  refine r_put0 dX11_clause_78 kF11_119 (sh_o hS kk468 (by decide)) (Or.inl rfl) ?_
  have K50 : ∀ N31 : jM, N31 = (si M 468 3 (w32 ((iv M 468 3) + (1 : Int)))) → Run (e + 1) mX11_clause 81 [some (vR 468), some (vI l1), l2] [] N31 Q := by
    intro N31 hN49
    have sN32 : Shp N31 := by rw [hN49]; exact hS
    refine r_aload_n dX11_clause_81 rfl ?_
    refine r_get0 dX11_clause_82 kF11_126 (sh_o sN32 kk468 (by decide)) ?_
    refine r_iconst dX11_clause_85 (by decide) ?_
    refine r_icmp_eq dX11_clause_86 rfl (fun c33 => ?_) (fun c33 => ?_)
    · refine r_aload_n dX11_clause_90 rfl ?_
      refine r_getS (v := 474) dX11_clause_91 kF11_25 (sh_o sN32 kk468 (by decide)) (sh_f sN32 rr468_10 (by decide)) ?_
      refine r_iload_n dX11_clause_94 rfl ?_
      refine r_aload_n dX11_clause_95 rfl ?_
      refine r_getS (v := 472) dX11_clause_96 kF11_19 (sh_o sN32 kk468 (by decide)) (sh_f sN32 rr468_8 (by decide)) ?_
      refine r_aload_n dX11_clause_99 rfl ?_
      refine r_get0 dX11_clause_100 kF11_129 (sh_o sN32 kk468 (by decide)) ?_
      have ob34 := ((h N31 hN49 sN32).1 c33).1
      refine r_iaload dX11_clause_103 (jro_ix (sh_r sN32 kk472 (by decide)) ob34) ?_
      have ob35 := ((h N31 hN49 sN32).1 c33).2.1
      refine r_iastore dX11_clause_104 ⟨jro_ix (sh_r sN32 kk474 (by decide)) ob35, (by decide)⟩ ?_
      have K52 : ∀ N36 : jM, N36 = (si N31 474 (l1).toNat (iv N31 472 (iv N31 468 14).toNat)) → Run (e + 1) mX11_clause 105 [some (vR 468), some (vI l1), l2] [] N36 Q := by
        intro N36 hN51
        have sN37 : Shp N36 := by rw [hN51]; exact sN32
        refine r_aload_n dX11_clause_105 rfl ?_
        refine r_invV_i dX11_clause_106 kM11_138 (by decide) (Nat.le_of_ble_eq_true rfl) rfl rfl (Nat.le_of_ble_eq_true rfl) (Nat.le_of_ble_eq_true rfl) (sh_o sN37 kk468 (by decide)) (Call.mono (((h N31 hN49 sN32).1 c33).2.2 N36 hN51 sN37) (Nat.le_refl _) ?_)
        rintro _ M39 ⟨z38, rfl, s42, h40⟩
        refine ⟨_, rfl, ?_⟩
        refine r_bipush dX11_clause_109 (by decide) ?_
        refine r_icmp_eq dX11_clause_111 rfl (fun c43 => ?_) (fun c43 => ?_)
        · refine r_iconst dX11_clause_123 (by decide) ?_
          refine r_goto (tgt := 128) dX11_clause_124 rfl ?_
          refine r_istore_n (ls2 := [some (vR 468), some (vI l1), some (vI (1 : Int))]) dX11_clause_128 (Nat.le_of_ble_eq_true rfl) rfl ?_
          exact (h40.1 c43)
        · refine r_aload_n dX11_clause_114 rfl ?_
          refine r_invV_i dX11_clause_115 kM11_138 (by decide) (Nat.le_of_ble_eq_true rfl) rfl rfl (Nat.le_of_ble_eq_true rfl) (Nat.le_of_ble_eq_true rfl) (sh_o s42 kk468 (by decide)) (Call.mono (h40.2 c43) (Nat.le_refl _) ?_)
          rintro _ M45 ⟨z44, rfl, s48, h46⟩
          refine ⟨_, rfl, ?_⟩
          refine r_bipush dX11_clause_118 (by decide) ?_
          have K53 : Run (e + 1) mX11_clause 128 [some (vR 468), some (vI l1), l2] [vI (if z44 ≠ (40 : Int) then (0 : Int) else (1 : Int))] M45 Q := by
            refine r_istore_n (ls2 := [some (vR 468), some (vI l1), some (vI (if z44 ≠ (40 : Int) then (0 : Int) else (1 : Int)))]) dX11_clause_128 (Nat.le_of_ble_eq_true rfl) rfl ?_
            exact h46
          refine r_icmp_ne dX11_clause_120 rfl (fun q54 => ?_) (fun q54 => ?_)
          · rw [if_pos q54] at K53
            refine r_iconst dX11_clause_127 (by decide) ?_
            exact K53
          · rw [if_neg q54] at K53
            refine r_iconst dX11_clause_123 (by decide) ?_
            refine r_goto (tgt := 128) dX11_clause_124 rfl ?_
            exact K53
      exact K52 _ rfl
    · exact r_vret dX11_clause_89 rfl ((h N31 hN49 sN32).2 c33)
  exact K50 _ rfl
theorem vn_clause_129 {e : Nat} {M : jM} {Q : Option jV → jM → Prop} {l1 : Int} {l2 : Int}  (he : 6 ≤ e) (hS : Shp M)
  (h : ((l2 = (0 : Int)) → (Call e mX11_sum [vR 468] M (fun r60 M58 => r60 = none ∧ Shp M58 ∧ ((((iv M58 468 4) ≠ (-1 : Int)) → (Run (e + 1) mX11_clause 184 [some (vR 468), some (vI l1), some (vI (0 : Int))] [] M58 Q)) ∧ (¬ ((iv M58 468 4) ≠ (-1 : Int)) → (Call e mX11_look [vR 468] M58 (fun r66 M64 => ∃ z63 : Int, r66 = some (vI z63) ∧ Shp M64 ∧ ((((if (fSg z63) = (0 : Int) then (0 : Int) else (1 : Int)) = (0 : Int)) → (Run (e + 1) mX11_clause 184 [some (vR 468), some (vI l1), some (vI (if (fSg z63) = (0 : Int) then (0 : Int) else (1 : Int)))] [] M64 Q)) ∧ (¬ ((if (fSg z63) = (0 : Int) then (0 : Int) else (1 : Int)) = (0 : Int)) → (Call e mX11_compare [vR 468] M64 (fun r72 M70 => r72 = none ∧ Shp M70 ∧ (Call e mX11_goOnAnd [vR 468] M70 (fun r77 M75 => r77 = none ∧ Shp M75 ∧ (Call e mX11_goOnOr [vR 468] M75 (fun r82 M80 => r82 = none ∧ Shp M80 ∧ (Run (e + 1) mX11_clause 184 [some (vR 468), some (vI l1), some (vI (if (fSg z63) = (0 : Int) then (0 : Int) else (1 : Int)))] [] M80 Q)))))))))))))))) ∧ (¬ (l2 = (0 : Int)) → (Call e mX11_condition [vR 468] M (fun r87 M85 => r87 = none ∧ Shp M85 ∧ (Run (e + 1) mX11_clause 184 [some (vR 468), some (vI l1), some (vI l2)] [] M85 Q))))) :
  Run (e + 1) mX11_clause 129 [some (vR 468), some (vI l1), some (vI l2)] [] M Q := by
  refine r_iload_n dX11_clause_129 rfl ?_
  refine r_if_eq dX11_clause_130 rfl (fun c56 => ?_) (fun c56 => ?_)
  · refine r_aload_n dX11_clause_140 rfl ?_
    refine r_invV_v dX11_clause_141 kM11_159 (by decide) (Nat.le_of_ble_eq_true rfl) rfl rfl (Nat.le_of_ble_eq_true rfl) (Nat.le_of_ble_eq_true rfl) (sh_o hS kk468 (by decide)) (Call.mono (h.1 c56) (Nat.le_refl _) ?_)
    rintro _ M58 ⟨rfl, s61, h59⟩
    refine ⟨rfl, ?_⟩
    refine r_aload_n dX11_clause_144 rfl ?_
    refine r_get0 dX11_clause_145 kF11_126 (sh_o s61 kk468 (by decide)) ?_
    refine r_iconst dX11_clause_148 (by decide) ?_
    refine r_icmp_ne dX11_clause_149 rfl (fun c62 => ?_) (fun c62 => ?_)
    · refine r_iconst dX11_clause_166 (by decide) ?_
      refine r_istore_n (ls2 := [some (vR 468), some (vI l1), some (vI (0 : Int))]) dX11_clause_167 (Nat.le_of_ble_eq_true rfl) rfl ?_
      refine r_iload_n dX11_clause_168 rfl ?_
      refine r_if_eq dX11_clause_169 rfl (fun _ => ?_) (fun q => absurd (by decide) q)
      exact (h59.1 c62)
    · refine r_aload_n dX11_clause_152 rfl ?_
      refine r_invV_i dX11_clause_153 kM11_138 (by decide) (Nat.le_of_ble_eq_true rfl) rfl rfl (Nat.le_of_ble_eq_true rfl) (Nat.le_of_ble_eq_true rfl) (sh_o s61 kk468 (by decide)) (Call.mono (h59.2 c62) (Nat.le_refl _) ?_)
      rintro _ M64 ⟨z63, rfl, s67, h65⟩
      refine ⟨_, rfl, ?_⟩
      refine r_invS_i dX11_clause_156 (by decide) kXn11_172 kM11_172 (by decide) (Nat.le_of_ble_eq_true rfl) rfl rfl (Nat.le_of_ble_eq_true rfl) (Nat.le_of_ble_eq_true rfl) (m_isSign (by omega) s67 ⟨_, rfl, ?_⟩)
      have K89 : Run (e + 1) mX11_clause 167 [some (vR 468), some (vI l1), some (vI l2)] [vI (if (fSg z63) = (0 : Int) then (0 : Int) else (1 : Int))] M64 Q := by
        refine r_istore_n (ls2 := [some (vR 468), some (vI l1), some (vI (if (fSg z63) = (0 : Int) then (0 : Int) else (1 : Int)))]) dX11_clause_167 (Nat.le_of_ble_eq_true rfl) rfl ?_
        refine r_iload_n dX11_clause_168 rfl ?_
        refine r_if_eq dX11_clause_169 rfl (fun c68 => ?_) (fun c68 => ?_)
        · exact (h65.1 c68)
        · refine r_aload_n dX11_clause_172 rfl ?_
          refine r_invV_v dX11_clause_173 kM11_181 (by decide) (Nat.le_of_ble_eq_true rfl) rfl rfl (Nat.le_of_ble_eq_true rfl) (Nat.le_of_ble_eq_true rfl) (sh_o s67 kk468 (by decide)) (Call.mono (h65.2 c68) (Nat.le_refl _) ?_)
          rintro _ M70 ⟨rfl, s73, h71⟩
          refine ⟨rfl, ?_⟩
          refine r_aload_n dX11_clause_176 rfl ?_
          refine r_invV_v dX11_clause_177 kM11_184 (by decide) (Nat.le_of_ble_eq_true rfl) rfl rfl (Nat.le_of_ble_eq_true rfl) (Nat.le_of_ble_eq_true rfl) (sh_o s73 kk468 (by decide)) (Call.mono h71 (Nat.le_refl _) ?_)
          rintro _ M75 ⟨rfl, s78, h76⟩
          refine ⟨rfl, ?_⟩
          refine r_aload_n dX11_clause_180 rfl ?_
          refine r_invV_v dX11_clause_181 kM11_187 (by decide) (Nat.le_of_ble_eq_true rfl) rfl rfl (Nat.le_of_ble_eq_true rfl) (Nat.le_of_ble_eq_true rfl) (sh_o s78 kk468 (by decide)) (Call.mono h76 (Nat.le_refl _) ?_)
          rintro _ M80 ⟨rfl, s83, h81⟩
          refine ⟨rfl, ?_⟩
          exact h81
      refine r_if_eq dX11_clause_159 rfl (fun q90 => ?_) (fun q90 => ?_)
      · rw [if_pos q90] at K89
        refine r_iconst dX11_clause_166 (by decide) ?_
        exact K89
      · rw [if_neg q90] at K89
        refine r_iconst dX11_clause_162 (by decide) ?_
        refine r_goto (tgt := 167) dX11_clause_163 rfl ?_
        exact K89
  · refine r_aload_n dX11_clause_133 rfl ?_
    refine r_invV_v dX11_clause_134 kM11_178 (by decide) (Nat.le_of_ble_eq_true rfl) rfl rfl (Nat.le_of_ble_eq_true rfl) (Nat.le_of_ble_eq_true rfl) (sh_o hS kk468 (by decide)) (Call.mono (h.2 c56) (Nat.le_refl _) ?_)
    rintro _ M85 ⟨rfl, s88, h86⟩
    refine ⟨rfl, ?_⟩
    refine r_goto (tgt := 184) dX11_clause_137 rfl ?_
    exact h86
theorem vn_clause_184 {e : Nat} {M : jM} {Q : Option jV → jM → Prop} {l1 : Int} {l2 : Int}  (he : 6 ≤ e) (hS : Shp M)
  (h : (0 ≤ l1 ∧ l1 < 700) ∧ (∀ N93 : jM, N93 = (si M 475 (l1).toNat (iv M 474 (l1).toNat)) → Shp N93 → (((l2 = (0 : Int)) → (Run (e + 1) mX11_clause 251 [some (vR 468), some (vI l1), some (vI l2)] [] N93 Q)) ∧ (¬ (l2 = (0 : Int)) → ((((iv N93 468 4) ≠ (-1 : Int)) → (Run (e + 1) mX11_clause 251 [some (vR 468), some (vI l1), some (vI l2)] [] N93 Q)) ∧ (¬ ((iv N93 468 4) ≠ (-1 : Int)) → (Call e mX11_look [vR 468] N93 (fun r100 M98 => ∃ z97 : Int, r100 = some (vI z97) ∧ Shp M98 ∧ (((z97 = (63 : Int)) → (∀ N103 : jM, N103 = (si M98 468 3 (w32 ((iv M98 468 3) + (1 : Int)))) → Shp N103 → ((0 ≤ (iv N103 468 14) ∧ (iv N103 468 14) < 5) ∧ (∀ N106 : jM, N106 = (si N103 475 (l1).toNat (iv N103 472 (iv N103 468 14).toNat)) → Shp N106 → (Call e mX11_sum [vR 468] N106 (fun r111 M109 => r111 = none ∧ Shp M109 ∧ (Run (e + 1) mX11_clause 251 [some (vR 468), some (vI l1), some (vI l2)] [] M109 Q))))))) ∧ (¬ (z97 = (63 : Int)) → (∀ N113 : jM, N113 = (si M98 468 4 (if iv M98 468 4 = -1 then iv M98 468 3 else iv M98 468 4)) → Shp N113 → (Q none N113)))))))))))) :
  Run (e + 1) mX11_clause 184 [some (vR 468), some (vI l1), some (vI l2)] [] M Q := by
  refine r_aload_n dX11_clause_184 rfl ?_
  refine r_getS (v := 475) dX11_clause_185 kF11_28 (sh_o hS kk468 (by decide)) (sh_f hS rr468_11 (by decide)) ?_
  refine r_iload_n dX11_clause_188 rfl ?_
  refine r_aload_n dX11_clause_189 rfl ?_
  refine r_getS (v := 474) dX11_clause_190 kF11_25 (sh_o hS kk468 (by decide)) (sh_f hS rr468_10 (by decide)) ?_
  refine r_iload_n dX11_clause_193 rfl ?_
  have ob92 := h.1
  refine r_iaload dX11_clause_194 (jro_ix (sh_r hS kk474 (by decide)) ob92) ?_
  refine r_iastore dX11_clause_195 ⟨jro_ix (sh_r hS kk475 (by decide)) ob92, (by decide)⟩ ?_
  have K116 : ∀ N93 : jM, N93 = (si M 475 (l1).toNat (iv M 474 (l1).toNat)) → Run (e + 1) mX11_clause 196 [some (vR 468), some (vI l1), some (vI l2)] [] N93 Q := by
    intro N93 hN115
    have sN94 : Shp N93 := by rw [hN115]; exact hS
    refine r_iload_n dX11_clause_196 rfl ?_
    refine r_if_eq dX11_clause_197 rfl (fun c95 => ?_) (fun c95 => ?_)
    · exact ((h.2 N93 hN115 sN94).1 c95)
    · refine r_aload_n dX11_clause_200 rfl ?_
      refine r_get0 dX11_clause_201 kF11_126 (sh_o sN94 kk468 (by decide)) ?_
      refine r_iconst dX11_clause_204 (by decide) ?_
      refine r_icmp_ne dX11_clause_205 rfl (fun c96 => ?_) (fun c96 => ?_)
      · exact (((h.2 N93 hN115 sN94).2 c95).1 c96)
      · refine r_aload_n dX11_clause_208 rfl ?_
        refine r_invV_i dX11_clause_209 kM11_138 (by decide) (Nat.le_of_ble_eq_true rfl) rfl rfl (Nat.le_of_ble_eq_true rfl) (Nat.le_of_ble_eq_true rfl) (sh_o sN94 kk468 (by decide)) (Call.mono (((h.2 N93 hN115 sN94).2 c95).2 c96) (Nat.le_refl _) ?_)
        rintro _ M98 ⟨z97, rfl, s101, h99⟩
        refine ⟨_, rfl, ?_⟩
        refine r_bipush dX11_clause_212 (by decide) ?_
        refine r_icmp_eq dX11_clause_214 rfl (fun c102 => ?_) (fun c102 => ?_)
        · refine r_aload_n dX11_clause_222 rfl ?_
          refine r_dupR dX11_clause_223 ?_
          refine r_get0 dX11_clause_224 kF11_119 (sh_o s101 kk468 (by decide)) ?_
          refine r_iconst dX11_clause_227 (by decide) ?_
          refine r_iadd dX11_clause_228 ?_
          refine r_put0 dX11_clause_229 kF11_119 (sh_o s101 kk468 (by decide)) (Or.inl rfl) ?_
          have K118 : ∀ N103 : jM, N103 = (si M98 468 3 (w32 ((iv M98 468 3) + (1 : Int)))) → Run (e + 1) mX11_clause 232 [some (vR 468), some (vI l1), some (vI l2)] [] N103 Q := by
            intro N103 hN117
            have sN104 : Shp N103 := by rw [hN117]; exact s101
            refine r_aload_n dX11_clause_232 rfl ?_
            refine r_getS (v := 475) dX11_clause_233 kF11_28 (sh_o sN104 kk468 (by decide)) (sh_f sN104 rr468_11 (by decide)) ?_
            refine r_iload_n dX11_clause_236 rfl ?_
            refine r_aload_n dX11_clause_237 rfl ?_
            refine r_getS (v := 472) dX11_clause_238 kF11_19 (sh_o sN104 kk468 (by decide)) (sh_f sN104 rr468_8 (by decide)) ?_
            refine r_aload_n dX11_clause_241 rfl ?_
            refine r_get0 dX11_clause_242 kF11_129 (sh_o sN104 kk468 (by decide)) ?_
            have ob105 := ((h99.1 c102) N103 hN117 sN104).1
            refine r_iaload dX11_clause_245 (jro_ix (sh_r sN104 kk472 (by decide)) ob105) ?_
            refine r_iastore dX11_clause_246 ⟨jro_ix (sh_r sN104 kk475 (by decide)) ob92, (by decide)⟩ ?_
            have K120 : ∀ N106 : jM, N106 = (si N103 475 (l1).toNat (iv N103 472 (iv N103 468 14).toNat)) → Run (e + 1) mX11_clause 247 [some (vR 468), some (vI l1), some (vI l2)] [] N106 Q := by
              intro N106 hN119
              have sN107 : Shp N106 := by rw [hN119]; exact sN104
              refine r_aload_n dX11_clause_247 rfl ?_
              refine r_invV_v dX11_clause_248 kM11_159 (by decide) (Nat.le_of_ble_eq_true rfl) rfl rfl (Nat.le_of_ble_eq_true rfl) (Nat.le_of_ble_eq_true rfl) (sh_o sN107 kk468 (by decide)) (Call.mono (((h99.1 c102) N103 hN117 sN104).2 N106 hN119 sN107) (Nat.le_refl _) ?_)
              rintro _ M109 ⟨rfl, s112, h110⟩
              refine ⟨rfl, ?_⟩
              exact h110
            exact K120 _ rfl
          exact K118 _ rfl
        · refine r_aload_n dX11_clause_217 rfl ?_
          refine r_invV_v dX11_clause_218 kM11_135 (by decide) (Nat.le_of_ble_eq_true rfl) rfl rfl (Nat.le_of_ble_eq_true rfl) (Nat.le_of_ble_eq_true rfl) (sh_o s101 kk468 (by decide)) (m_bad (by omega) s101 ⟨rfl, ?_⟩)
          have K122 : ∀ N113 : jM, N113 = (si M98 468 4 (if iv M98 468 4 = -1 then iv M98 468 3 else iv M98 468 4)) → Run (e + 1) mX11_clause 221 [some (vR 468), some (vI l1), some (vI l2)] [] N113 Q := by
            intro N113 hN121
            have sN114 : Shp N113 := by rw [hN121]; exact s101
            exact r_vret dX11_clause_221 rfl ((h99.2 c102) N113 hN121 sN114)
          exact K122 _ rfl
  exact K116 _ rfl
theorem vn_clause_251 {e : Nat} {M : jM} {Q : Option jV → jM → Prop} {l1 : Int} {l2 : Int}  (he : 6 ≤ e) (hS : Shp M)
  (h : (0 ≤ (iv M 468 14) ∧ (iv M 468 14) < 5) ∧ ((0 ≤ l1 ∧ l1 < 700) ∧ (∀ N125 : jM, N125 = (si M 476 (l1).toNat (iv M 472 (iv M 468 14).toNat)) → Shp N125 → ((0 ≤ (iv N125 468 14) ∧ (iv N125 468 14) < 5) ∧ (∀ N128 : jM, N128 = (si N125 473 (iv N125 468 14).toNat (w32 ((iv N125 473 (iv N125 468 14).toNat) + (1 : Int)))) → Shp N128 → (Q none N128)))))) :
  Run (e + 1) mX11_clause 251 [some (vR 468), some (vI l1), some (vI l2)] [] M Q := by
  refine r_aload_n dX11_clause_251 rfl ?_
  refine r_getS (v := 476) dX11_clause_252 kF11_31 (sh_o hS kk468 (by decide)) (sh_f hS rr468_12 (by decide)) ?_
  refine r_iload_n dX11_clause_255 rfl ?_
  refine r_aload_n dX11_clause_256 rfl ?_
  refine r_getS (v := 472) dX11_clause_257 kF11_19 (sh_o hS kk468 (by decide)) (sh_f hS rr468_8 (by decide)) ?_
  refine r_aload_n dX11_clause_260 rfl ?_
  refine r_get0 dX11_clause_261 kF11_129 (sh_o hS kk468 (by decide)) ?_
  have ob123 := h.1
  refine r_iaload dX11_clause_264 (jro_ix (sh_r hS kk472 (by decide)) ob123) ?_
  have ob124 := h.2.1
  refine r_iastore dX11_clause_265 ⟨jro_ix (sh_r hS kk476 (by decide)) ob124, (by decide)⟩ ?_
  have K131 : ∀ N125 : jM, N125 = (si M 476 (l1).toNat (iv M 472 (iv M 468 14).toNat)) → Run (e + 1) mX11_clause 266 [some (vR 468), some (vI l1), some (vI l2)] [] N125 Q := by
    intro N125 hN130
    have sN126 : Shp N125 := by rw [hN130]; exact hS
    refine r_aload_n dX11_clause_266 rfl ?_
    refine r_getS (v := 473) dX11_clause_267 kF11_22 (sh_o sN126 kk468 (by decide)) (sh_f sN126 rr468_9 (by decide)) ?_
    refine r_aload_n dX11_clause_270 rfl ?_
    refine r_get0 dX11_clause_271 kF11_129 (sh_o sN126 kk468 (by decide)) ?_
    refine r_dup2IR dX11_clause_274 ?_
    have ob127 := (h.2.2 N125 hN130 sN126).1
    refine r_iaload dX11_clause_275 (jro_ix (sh_r sN126 kk473 (by decide)) ob127) ?_
    refine r_iconst dX11_clause_276 (by decide) ?_
    refine r_iadd dX11_clause_277 ?_
    refine r_iastore dX11_clause_278 ⟨jro_ix (sh_r sN126 kk473 (by decide)) ob127, (by decide)⟩ ?_
    have K133 : ∀ N128 : jM, N128 = (si N125 473 (iv N125 468 14).toNat (w32 ((iv N125 473 (iv N125 468 14).toNat) + (1 : Int)))) → Run (e + 1) mX11_clause 279 [some (vR 468), some (vI l1), some (vI l2)] [] N128 Q := by
      intro N128 hN132
      have sN129 : Shp N128 := by rw [hN132]; exact sN126
      exact r_vret dX11_clause_279 rfl ((h.2.2 N125 hN130 sN126).2 N128 hN132 sN129)
    exact K133 _ rfl
  exact K131 _ rfl
theorem vn_open {e : Nat} {M : jM} {Q : Option jV → jM → Prop} {n : Int} (he : 6 ≤ e) (hS : Shp M)
  (h : ∀ N1 : jM, N1 = (si M 468 14 n) → Shp N1 → (∀ N3 : jM, N3 = (si N1 468 3 (0 : Int)) → Shp N3 → (∀ N5 : jM, N5 = (si N3 468 4 (-1 : Int)) → Shp N5 → (∀ N7 : jM, N7 = (si N5 468 5 (0 : Int)) → Shp N7 → ((0 ≤ n ∧ n < 5) ∧ (∀ N10 : jM, N10 = (si N7 472 (n).toNat (0 : Int)) → Shp N10 → (∀ N12 : jM, N12 = (si N10 473 (n).toNat (0 : Int)) → Shp N12 → (Q none N12)))))))) :
  Call (e + 1) mX11_open [vR 468, vI n] M Q := by
  show Run (e + 1) mX11_open 0 [some (vR 468), some (vI n)] [] M Q
  refine r_aload_n dX11_open_0 rfl ?_
  refine r_iload_n dX11_open_1 rfl ?_
  refine r_put0 dX11_open_2 kF11_129 (sh_o hS kk468 (by decide)) (Or.inl rfl) ?_
  have K15 : ∀ N1 : jM, N1 = (si M 468 14 n) → Run (e + 1) mX11_open 5 [some (vR 468), some (vI n)] [] N1 Q := by
    intro N1 hN14
    have sN2 : Shp N1 := by rw [hN14]; exact hS
    refine r_aload_n dX11_open_5 rfl ?_
    refine r_iconst dX11_open_6 (by decide) ?_
    refine r_put0 dX11_open_7 kF11_119 (sh_o sN2 kk468 (by decide)) (Or.inl rfl) ?_
    have K17 : ∀ N3 : jM, N3 = (si N1 468 3 (0 : Int)) → Run (e + 1) mX11_open 10 [some (vR 468), some (vI n)] [] N3 Q := by
      intro N3 hN16
      have sN4 : Shp N3 := by rw [hN16]; exact sN2
      refine r_aload_n dX11_open_10 rfl ?_
      refine r_iconst dX11_open_11 (by decide) ?_
      refine r_put0 dX11_open_12 kF11_126 (sh_o sN4 kk468 (by decide)) (Or.inl rfl) ?_
      have K19 : ∀ N5 : jM, N5 = (si N3 468 4 (-1 : Int)) → Run (e + 1) mX11_open 15 [some (vR 468), some (vI n)] [] N5 Q := by
        intro N5 hN18
        have sN6 : Shp N5 := by rw [hN18]; exact sN4
        refine r_aload_n dX11_open_15 rfl ?_
        refine r_iconst dX11_open_16 (by decide) ?_
        refine r_put0 dX11_open_17 kF11_132 (sh_o sN6 kk468 (by decide)) (Or.inl rfl) ?_
        have K21 : ∀ N7 : jM, N7 = (si N5 468 5 (0 : Int)) → Run (e + 1) mX11_open 20 [some (vR 468), some (vI n)] [] N7 Q := by
          intro N7 hN20
          have sN8 : Shp N7 := by rw [hN20]; exact sN6
          refine r_aload_n dX11_open_20 rfl ?_
          refine r_getS (v := 472) dX11_open_21 kF11_19 (sh_o sN8 kk468 (by decide)) (sh_f sN8 rr468_8 (by decide)) ?_
          refine r_iload_n dX11_open_24 rfl ?_
          refine r_iconst dX11_open_25 (by decide) ?_
          have ob9 := ((((h N1 hN14 sN2) N3 hN16 sN4) N5 hN18 sN6) N7 hN20 sN8).1
          refine r_iastore dX11_open_26 ⟨jro_ix (sh_r sN8 kk472 (by decide)) ob9, (by decide)⟩ ?_
          have K23 : ∀ N10 : jM, N10 = (si N7 472 (n).toNat (0 : Int)) → Run (e + 1) mX11_open 27 [some (vR 468), some (vI n)] [] N10 Q := by
            intro N10 hN22
            have sN11 : Shp N10 := by rw [hN22]; exact sN8
            refine r_aload_n dX11_open_27 rfl ?_
            refine r_getS (v := 473) dX11_open_28 kF11_22 (sh_o sN11 kk468 (by decide)) (sh_f sN11 rr468_9 (by decide)) ?_
            refine r_iload_n dX11_open_31 rfl ?_
            refine r_iconst dX11_open_32 (by decide) ?_
            refine r_iastore dX11_open_33 ⟨jro_ix (sh_r sN11 kk473 (by decide)) ob9, (by decide)⟩ ?_
            have K25 : ∀ N12 : jM, N12 = (si N10 473 (n).toNat (0 : Int)) → Run (e + 1) mX11_open 34 [some (vR 468), some (vI n)] [] N12 Q := by
              intro N12 hN24
              have sN13 : Shp N12 := by rw [hN24]; exact sN11
              exact r_vret dX11_open_34 rfl ((((((h N1 hN14 sN2) N3 hN16 sN4) N5 hN18 sN6) N7 hN20 sN8).2 N10 hN22 sN11) N12 hN24 sN13)
            exact K25 _ rfl
          exact K23 _ rfl
        exact K21 _ rfl
      exact K19 _ rfl
    exact K17 _ rfl
  exact K15 _ rfl
theorem vn_atEnd {e : Nat} {M : jM} {Q : Option jV → jM → Prop}  (he : 6 ≤ e) (hS : Shp M)
  (h : (((iv M 468 4) ≠ (-1 : Int)) → (Q (some (vI (iv M 468 4))) M)) ∧ (¬ ((iv M 468 4) ≠ (-1 : Int)) → (Call e mX11_look [vR 468] M (fun r5 M3 => ∃ z2 : Int, r5 = some (vI z2) ∧ Shp M3 ∧ (((z2 = (-1 : Int)) → (Q (some (vI (iv M3 468 4))) M3)) ∧ (¬ (z2 = (-1 : Int)) → (∀ N8 : jM, N8 = (si M3 468 4 (if iv M3 468 4 = -1 then iv M3 468 3 else iv M3 468 4)) → Shp N8 → (Q (some (vI (iv N8 468 4))) N8)))))))) :
  Call (e + 1) mX11_atEnd [vR 468] M Q := by
  show Run (e + 1) mX11_atEnd 0 [some (vR 468)] [] M Q
  refine r_aload_n dX11_atEnd_0 rfl ?_
  refine r_get0 dX11_atEnd_1 kF11_126 (sh_o hS kk468 (by decide)) ?_
  refine r_iconst dX11_atEnd_4 (by decide) ?_
  refine r_icmp_ne dX11_atEnd_5 rfl (fun c1 => ?_) (fun c1 => ?_)
  · refine r_aload_n dX11_atEnd_20 rfl ?_
    refine r_get0 dX11_atEnd_21 kF11_126 (sh_o hS kk468 (by decide)) ?_
    exact r_iret dX11_atEnd_24 rfl (h.1 c1)
  · refine r_aload_n dX11_atEnd_8 rfl ?_
    refine r_invV_i dX11_atEnd_9 kM11_138 (by decide) (Nat.le_of_ble_eq_true rfl) rfl rfl (Nat.le_of_ble_eq_true rfl) (Nat.le_of_ble_eq_true rfl) (sh_o hS kk468 (by decide)) (Call.mono (h.2 c1) (Nat.le_refl _) ?_)
    rintro _ M3 ⟨z2, rfl, s6, h4⟩
    refine ⟨_, rfl, ?_⟩
    refine r_iconst dX11_atEnd_12 (by decide) ?_
    refine r_icmp_eq dX11_atEnd_13 rfl (fun c7 => ?_) (fun c7 => ?_)
    · refine r_aload_n dX11_atEnd_20 rfl ?_
      refine r_get0 dX11_atEnd_21 kF11_126 (sh_o s6 kk468 (by decide)) ?_
      exact r_iret dX11_atEnd_24 rfl (h4.1 c7)
    · refine r_aload_n dX11_atEnd_16 rfl ?_
      refine r_invV_v dX11_atEnd_17 kM11_135 (by decide) (Nat.le_of_ble_eq_true rfl) rfl rfl (Nat.le_of_ble_eq_true rfl) (Nat.le_of_ble_eq_true rfl) (sh_o s6 kk468 (by decide)) (m_bad (by omega) s6 ⟨rfl, ?_⟩)
      have K11 : ∀ N8 : jM, N8 = (si M3 468 4 (if iv M3 468 4 = -1 then iv M3 468 3 else iv M3 468 4)) → Run (e + 1) mX11_atEnd 20 [some (vR 468)] [] N8 Q := by
        intro N8 hN10
        have sN9 : Shp N8 := by rw [hN10]; exact s6
        refine r_aload_n dX11_atEnd_20 rfl ?_
        refine r_get0 dX11_atEnd_21 kF11_126 (sh_o sN9 kk468 (by decide)) ?_
        exact r_iret dX11_atEnd_24 rfl ((h4.2 c7) N8 hN10 sN9)
      exact K11 _ rfl
theorem vn_readLaw {e : Nat} {M : jM} {Q : Option jV → jM → Prop} {n : Int} (he : 6 ≤ e) (hS : Shp M)
  (h : Call e mX11_open [vR 468, vI n] M (fun r4 M2 => r4 = none ∧ Shp M2 ∧ (Call e mX11_clause [vR 468] M2 (fun r9 M7 => r9 = none ∧ Shp M7 ∧ (Run (e + 1) mX11_readLaw 9 [some (vR 468), some (vI n)] [] M7 Q))))) :
  Call (e + 1) mX11_readLaw [vR 468, vI n] M Q := by
  show Run (e + 1) mX11_readLaw 0 [some (vR 468), some (vI n)] [] M Q
  refine r_aload_n dX11_readLaw_0 rfl ?_
  refine r_iload_n dX11_readLaw_1 rfl ?_
  refine r_invV_v dX11_readLaw_2 kM11_190 (by decide) (Nat.le_of_ble_eq_true rfl) rfl rfl (Nat.le_of_ble_eq_true rfl) (Nat.le_of_ble_eq_true rfl) (sh_o hS kk468 (by decide)) (Call.mono h (Nat.le_refl _) ?_)
  rintro _ M2 ⟨rfl, s5, h3⟩
  refine ⟨rfl, ?_⟩
  refine r_aload_n dX11_readLaw_5 rfl ?_
  refine r_invV_v dX11_readLaw_6 kM11_193 (by decide) (Nat.le_of_ble_eq_true rfl) rfl rfl (Nat.le_of_ble_eq_true rfl) (Nat.le_of_ble_eq_true rfl) (sh_o s5 kk468 (by decide)) (Call.mono h3 (Nat.le_refl _) ?_)
  rintro _ M7 ⟨rfl, s10, h8⟩
  refine ⟨rfl, ?_⟩
  exact h8
theorem vn_readLaw_9 {e : Nat} {M : jM} {Q : Option jV → jM → Prop} {n : Int}  (he : 6 ≤ e) (hS : Shp M)
  (h : (((iv M 468 4) ≠ (-1 : Int)) → (Call e mX11_atEnd [vR 468] M (fun r15 M13 => ∃ z12 : Int, r15 = some (vI z12) ∧ Shp M13 ∧ (Q (some (vI z12)) M13)))) ∧ (¬ ((iv M 468 4) ≠ (-1 : Int)) → (Call e mX11_look [vR 468] M (fun r20 M18 => ∃ z17 : Int, r20 = some (vI z17) ∧ Shp M18 ∧ (((z17 ≠ (59 : Int)) → (Call e mX11_atEnd [vR 468] M18 (fun r26 M24 => ∃ z23 : Int, r26 = some (vI z23) ∧ Shp M24 ∧ (Q (some (vI z23)) M24)))) ∧ (¬ (z17 ≠ (59 : Int)) → (∀ N28 : jM, N28 = (si M18 468 3 (w32 ((iv M18 468 3) + (1 : Int)))) → Shp N28 → (Call e mX11_clause [vR 468] N28 (fun r33 M31 => r33 = none ∧ Shp M31 ∧ (Run (e + 1) mX11_readLaw 9 [some (vR 468), some (vI n)] [] M31 Q)))))))))) :
  Run (e + 1) mX11_readLaw 9 [some (vR 468), some (vI n)] [] M Q := by
  refine r_aload_n dX11_readLaw_9 rfl ?_
  refine r_get0 dX11_readLaw_10 kF11_126 (sh_o hS kk468 (by decide)) ?_
  refine r_iconst dX11_readLaw_13 (by decide) ?_
  refine r_icmp_ne dX11_readLaw_14 rfl (fun c11 => ?_) (fun c11 => ?_)
  · refine r_aload_n dX11_readLaw_43 rfl ?_
    refine r_invV_i dX11_readLaw_44 kM11_196 (by decide) (Nat.le_of_ble_eq_true rfl) rfl rfl (Nat.le_of_ble_eq_true rfl) (Nat.le_of_ble_eq_true rfl) (sh_o hS kk468 (by decide)) (Call.mono (h.1 c11) (Nat.le_refl _) ?_)
    rintro _ M13 ⟨z12, rfl, s16, h14⟩
    refine ⟨_, rfl, ?_⟩
    exact r_iret dX11_readLaw_47 rfl h14
  · refine r_aload_n dX11_readLaw_17 rfl ?_
    refine r_invV_i dX11_readLaw_18 kM11_138 (by decide) (Nat.le_of_ble_eq_true rfl) rfl rfl (Nat.le_of_ble_eq_true rfl) (Nat.le_of_ble_eq_true rfl) (sh_o hS kk468 (by decide)) (Call.mono (h.2 c11) (Nat.le_refl _) ?_)
    rintro _ M18 ⟨z17, rfl, s21, h19⟩
    refine ⟨_, rfl, ?_⟩
    refine r_bipush dX11_readLaw_21 (by decide) ?_
    refine r_icmp_ne dX11_readLaw_23 rfl (fun c22 => ?_) (fun c22 => ?_)
    · refine r_aload_n dX11_readLaw_43 rfl ?_
      refine r_invV_i dX11_readLaw_44 kM11_196 (by decide) (Nat.le_of_ble_eq_true rfl) rfl rfl (Nat.le_of_ble_eq_true rfl) (Nat.le_of_ble_eq_true rfl) (sh_o s21 kk468 (by decide)) (Call.mono (h19.1 c22) (Nat.le_refl _) ?_)
      rintro _ M24 ⟨z23, rfl, s27, h25⟩
      refine ⟨_, rfl, ?_⟩
      exact r_iret dX11_readLaw_47 rfl h25
    · refine r_aload_n dX11_readLaw_26 rfl ?_
      refine r_dupR dX11_readLaw_27 ?_
      refine r_get0 dX11_readLaw_28 kF11_119 (sh_o s21 kk468 (by decide)) ?_
      refine r_iconst dX11_readLaw_31 (by decide) ?_
      refine r_iadd dX11_readLaw_32 ?_
      refine r_put0 dX11_readLaw_33 kF11_119 (sh_o s21 kk468 (by decide)) (Or.inl rfl) ?_
      have K36 : ∀ N28 : jM, N28 = (si M18 468 3 (w32 ((iv M18 468 3) + (1 : Int)))) → Run (e + 1) mX11_readLaw 36 [some (vR 468), some (vI n)] [] N28 Q := by
        intro N28 hN35
        have sN29 : Shp N28 := by rw [hN35]; exact s21
        refine r_aload_n dX11_readLaw_36 rfl ?_
        refine r_invV_v dX11_readLaw_37 kM11_193 (by decide) (Nat.le_of_ble_eq_true rfl) rfl rfl (Nat.le_of_ble_eq_true rfl) (Nat.le_of_ble_eq_true rfl) (sh_o sN29 kk468 (by decide)) (Call.mono ((h19.2 c22) N28 hN35 sN29) (Nat.le_refl _) ?_)
        rintro _ M31 ⟨rfl, s34, h32⟩
        refine ⟨rfl, ?_⟩
        refine r_goto (tgt := 9) dX11_readLaw_40 rfl ?_
        exact h32
      exact K36 _ rfl
theorem vn_number {e : Nat} {M : jM} {Q : Option jV → jM → Prop} {lo : Int} {hi : Int} (he : 6 ≤ e) (hS : Shp M)
  (h : Call e mX11_look [vR 468] M (fun r4 M2 => ∃ z1 : Int, r4 = some (vI z1) ∧ Shp M2 ∧ ((((fDg z1) ≠ (0 : Int)) → ((0 ≤ iv M2 468 3 ∧ iv M2 468 2 ≤ 240) ∧ (∀ v8 : Int, v8 = ((if iv M2 468 2 ≤ iv M2 468 3 then (-1 : Int) else iv M2 469 (iv M2 468 3).toNat)) → (∀ N9 : jM, N9 = (si M2 468 3 (w32 ((iv M2 468 3) + (1 : Int)))) → Shp N9 → ((0 ≤ iv N9 468 3 ∧ iv N9 468 2 ≤ 240) ∧ (∀ v12 : Int, v12 = ((if iv N9 468 2 ≤ iv N9 468 3 then (-1 : Int) else iv N9 469 (iv N9 468 3).toNat)) → ((((fDg v12) = (0 : Int)) → (∀ v14 : Int, v14 = ((if iv N9 468 2 ≤ iv N9 468 3 then (-1 : Int) else iv N9 469 (iv N9 468 3).toNat)) → ((((fDg v14) = (0 : Int)) → ((((fIn (w32 (v8 - (48 : Int))) lo hi) ≠ (0 : Int)) → (Q (some (vI (w32 (v8 - (48 : Int))))) N9)) ∧ (¬ ((fIn (w32 (v8 - (48 : Int))) lo hi) ≠ (0 : Int)) → (∀ N17 : jM, N17 = (si N9 468 3 (w32 ((iv N9 468 3) - (1 : Int)))) → Shp N17 → (∀ N19 : jM, N19 = (si N17 468 4 (if iv N17 468 4 = -1 then iv N17 468 3 else iv N17 468 4)) → Shp N19 → (Q (some (vI (w32 (v8 - (48 : Int))))) N19)))))) ∧ (¬ ((fDg v14) = (0 : Int)) → (∀ N21 : jM, N21 = (si N9 468 4 (if iv N9 468 4 = -1 then iv N9 468 3 else iv N9 468 4)) → Shp N21 → (Q (some (vI (w32 (v8 - (48 : Int))))) N21)))))) ∧ (¬ ((fDg v12) = (0 : Int)) → (∀ v23 : Int, v23 = ((if iv N9 468 2 ≤ iv N9 468 3 then (-1 : Int) else iv N9 469 (iv N9 468 3).toNat)) → (∀ v24 : Int, v24 = (w32 ((w32 ((w32 ((10 : Int) * (w32 (v8 - (48 : Int))))) + v23)) - (48 : Int))) → (∀ N25 : jM, N25 = (si N9 468 3 (w32 ((iv N9 468 3) + (1 : Int)))) → Shp N25 → ((0 ≤ iv N25 468 3 ∧ iv N25 468 2 ≤ 240) ∧ (∀ v28 : Int, v28 = ((if iv N25 468 2 ≤ iv N25 468 3 then (-1 : Int) else iv N25 469 (iv N25 468 3).toNat)) → ((((fDg v28) = (0 : Int)) → ((((fIn v24 lo hi) ≠ (0 : Int)) → (Q (some (vI v24)) N25)) ∧ (¬ ((fIn v24 lo hi) ≠ (0 : Int)) → (∀ N31 : jM, N31 = (si N25 468 3 (w32 ((iv N25 468 3) - (1 : Int)))) → Shp N31 → (∀ N33 : jM, N33 = (si N31 468 4 (if iv N31 468 4 = -1 then iv N31 468 3 else iv N31 468 4)) → Shp N33 → (Q (some (vI v24)) N33)))))) ∧ (¬ ((fDg v28) = (0 : Int)) → (∀ N35 : jM, N35 = (si N25 468 4 (if iv N25 468 4 = -1 then iv N25 468 3 else iv N25 468 4)) → Shp N35 → (Q (some (vI v24)) N35))))))))))))))))) ∧ (¬ ((fDg z1) ≠ (0 : Int)) → (∀ N37 : jM, N37 = (si M2 468 4 (if iv M2 468 4 = -1 then iv M2 468 3 else iv M2 468 4)) → Shp N37 → (Q (some (vI lo)) N37)))))) :
  Call (e + 1) mX11_number [vR 468, vI lo, vI hi] M Q := by
  show Run (e + 1) mX11_number 0 [some (vR 468), some (vI lo), some (vI hi), none] [] M Q
  refine r_aload_n dX11_number_0 rfl ?_
  refine r_invV_i dX11_number_1 kM11_138 (by decide) (Nat.le_of_ble_eq_true rfl) rfl rfl (Nat.le_of_ble_eq_true rfl) (Nat.le_of_ble_eq_true rfl) (sh_o hS kk468 (by decide)) (Call.mono h (Nat.le_refl _) ?_)
  rintro _ M2 ⟨z1, rfl, s5, h3⟩
  refine ⟨_, rfl, ?_⟩
  refine r_invS_i dX11_number_4 (by decide) kXn11_141 kM11_141 (by decide) (Nat.le_of_ble_eq_true rfl) rfl rfl (Nat.le_of_ble_eq_true rfl) (Nat.le_of_ble_eq_true rfl) (m_isDigit (by omega) s5 ⟨_, rfl, ?_⟩)
  refine r_if_ne dX11_number_7 rfl (fun c6 => ?_) (fun c6 => ?_)
  · refine r_aload_n dX11_number_16 rfl ?_
    have ob7 := (h3.1 c6).1
    refine r_invV_i dX11_number_17 kM11_122 (by decide) (Nat.le_of_ble_eq_true rfl) rfl rfl (Nat.le_of_ble_eq_true rfl) (Nat.le_of_ble_eq_true rfl) (sh_o s5 kk468 (by decide)) (m_here (by omega) s5 ob7 ⟨_, rfl, ?_⟩)
    have K40 : ∀ v8 : Int, v8 = ((if iv M2 468 2 ≤ iv M2 468 3 then (-1 : Int) else iv M2 469 (iv M2 468 3).toNat)) → Run (e + 1) mX11_number 20 [some (vR 468), some (vI lo), some (vI hi), none] [vI v8] M2 Q := by
      intro v8 hv39
      refine r_bipush dX11_number_20 (by decide) ?_
      refine r_isub dX11_number_22 ?_
      refine r_istore_n (ls2 := [some (vR 468), some (vI lo), some (vI hi), some (vI (w32 (v8 - (48 : Int))))]) dX11_number_23 (Nat.le_of_ble_eq_true rfl) rfl ?_
      refine r_aload_n dX11_number_24 rfl ?_
      refine r_dupR dX11_number_25 ?_
      refine r_get0 dX11_number_26 kF11_119 (sh_o s5 kk468 (by decide)) ?_
      refine r_iconst dX11_number_29 (by decide) ?_
      refine r_iadd dX11_number_30 ?_
      refine r_put0 dX11_number_31 kF11_119 (sh_o s5 kk468 (by decide)) (Or.inl rfl) ?_
      have K42 : ∀ N9 : jM, N9 = (si M2 468 3 (w32 ((iv M2 468 3) + (1 : Int)))) → Run (e + 1) mX11_number 34 [some (vR 468), some (vI lo), some (vI hi), some (vI (w32 (v8 - (48 : Int))))] [] N9 Q := by
        intro N9 hN41
        have sN10 : Shp N9 := by rw [hN41]; exact s5
        refine r_aload_n dX11_number_34 rfl ?_
        have ob11 := (((h3.1 c6).2 v8 hv39) N9 hN41 sN10).1
        refine r_invV_i dX11_number_35 kM11_122 (by decide) (Nat.le_of_ble_eq_true rfl) rfl rfl (Nat.le_of_ble_eq_true rfl) (Nat.le_of_ble_eq_true rfl) (sh_o sN10 kk468 (by decide)) (m_here (by omega) sN10 ob11 ⟨_, rfl, ?_⟩)
        have K44 : ∀ v12 : Int, v12 = ((if iv N9 468 2 ≤ iv N9 468 3 then (-1 : Int) else iv N9 469 (iv N9 468 3).toNat)) → Run (e + 1) mX11_number 38 [some (vR 468), some (vI lo), some (vI hi), some (vI (w32 (v8 - (48 : Int))))] [vI v12] N9 Q := by
          intro v12 hv43
          refine r_invS_i dX11_number_38 (by decide) kXn11_141 kM11_141 (by decide) (Nat.le_of_ble_eq_true rfl) rfl rfl (Nat.le_of_ble_eq_true rfl) (Nat.le_of_ble_eq_true rfl) (m_isDigit (by omega) sN10 ⟨_, rfl, ?_⟩)
          refine r_if_eq dX11_number_41 rfl (fun c13 => ?_) (fun c13 => ?_)
          · refine r_aload_n dX11_number_67 rfl ?_
            refine r_invV_i dX11_number_68 kM11_122 (by decide) (Nat.le_of_ble_eq_true rfl) rfl rfl (Nat.le_of_ble_eq_true rfl) (Nat.le_of_ble_eq_true rfl) (sh_o sN10 kk468 (by decide)) (m_here (by omega) sN10 ob11 ⟨_, rfl, ?_⟩)
            have K46 : ∀ v14 : Int, v14 = ((if iv N9 468 2 ≤ iv N9 468 3 then (-1 : Int) else iv N9 469 (iv N9 468 3).toNat)) → Run (e + 1) mX11_number 71 [some (vR 468), some (vI lo), some (vI hi), some (vI (w32 (v8 - (48 : Int))))] [vI v14] N9 Q := by
              intro v14 hv45
              refine r_invS_i dX11_number_71 (by decide) kXn11_141 kM11_141 (by decide) (Nat.le_of_ble_eq_true rfl) rfl rfl (Nat.le_of_ble_eq_true rfl) (Nat.le_of_ble_eq_true rfl) (m_isDigit (by omega) sN10 ⟨_, rfl, ?_⟩)
              refine r_if_eq dX11_number_74 rfl (fun c15 => ?_) (fun c15 => ?_)
              · refine r_iload_n dX11_number_84 rfl ?_
                refine r_iload_n dX11_number_85 rfl ?_
                refine r_iload_n dX11_number_86 rfl ?_
                refine r_invS_i dX11_number_87 (by decide) kXn11_224 kM11_224 (by decide) (Nat.le_of_ble_eq_true rfl) rfl rfl (Nat.le_of_ble_eq_true rfl) (Nat.le_of_ble_eq_true rfl) (m_in (by omega) sN10 ⟨_, rfl, ?_⟩)
                refine r_if_ne dX11_number_90 rfl (fun c16 => ?_) (fun c16 => ?_)
                · refine r_iload_n dX11_number_107 rfl ?_
                  exact r_iret dX11_number_108 rfl ((((((((h3.1 c6).2 v8 hv39) N9 hN41 sN10).2 v12 hv43).1 c13) v14 hv45).1 c15).1 c16)
                · refine r_aload_n dX11_number_93 rfl ?_
                  refine r_dupR dX11_number_94 ?_
                  refine r_get0 dX11_number_95 kF11_119 (sh_o sN10 kk468 (by decide)) ?_
                  refine r_iconst dX11_number_98 (by decide) ?_
                  refine r_isub dX11_number_99 ?_
                  refine r_put0 dX11_number_100 kF11_119 (sh_o sN10 kk468 (by decide)) (Or.inl rfl) ?_
                  have K48 : ∀ N17 : jM, N17 = (si N9 468 3 (w32 ((iv N9 468 3) - (1 : Int)))) → Run (e + 1) mX11_number 103 [some (vR 468), some (vI lo), some (vI hi), some (vI (w32 (v8 - (48 : Int))))] [] N17 Q := by
                    intro N17 hN47
                    have sN18 : Shp N17 := by rw [hN47]; exact sN10
                    refine r_aload_n dX11_number_103 rfl ?_
                    refine r_invV_v dX11_number_104 kM11_135 (by decide) (Nat.le_of_ble_eq_true rfl) rfl rfl (Nat.le_of_ble_eq_true rfl) (Nat.le_of_ble_eq_true rfl) (sh_o sN18 kk468 (by decide)) (m_bad (by omega) sN18 ⟨rfl, ?_⟩)
                    have K50 : ∀ N19 : jM, N19 = (si N17 468 4 (if iv N17 468 4 = -1 then iv N17 468 3 else iv N17 468 4)) → Run (e + 1) mX11_number 107 [some (vR 468), some (vI lo), some (vI hi), some (vI (w32 (v8 - (48 : Int))))] [] N19 Q := by
                      intro N19 hN49
                      have sN20 : Shp N19 := by rw [hN49]; exact sN18
                      refine r_iload_n dX11_number_107 rfl ?_
                      exact r_iret dX11_number_108 rfl ((((((((((h3.1 c6).2 v8 hv39) N9 hN41 sN10).2 v12 hv43).1 c13) v14 hv45).1 c15).2 c16) N17 hN47 sN18) N19 hN49 sN20)
                    exact K50 _ rfl
                  exact K48 _ rfl
              · refine r_aload_n dX11_number_77 rfl ?_
                refine r_invV_v dX11_number_78 kM11_135 (by decide) (Nat.le_of_ble_eq_true rfl) rfl rfl (Nat.le_of_ble_eq_true rfl) (Nat.le_of_ble_eq_true rfl) (sh_o sN10 kk468 (by decide)) (m_bad (by omega) sN10 ⟨rfl, ?_⟩)
                have K52 : ∀ N21 : jM, N21 = (si N9 468 4 (if iv N9 468 4 = -1 then iv N9 468 3 else iv N9 468 4)) → Run (e + 1) mX11_number 81 [some (vR 468), some (vI lo), some (vI hi), some (vI (w32 (v8 - (48 : Int))))] [] N21 Q := by
                  intro N21 hN51
                  have sN22 : Shp N21 := by rw [hN51]; exact sN10
                  refine r_goto (tgt := 107) dX11_number_81 rfl ?_
                  refine r_iload_n dX11_number_107 rfl ?_
                  exact r_iret dX11_number_108 rfl ((((((((h3.1 c6).2 v8 hv39) N9 hN41 sN10).2 v12 hv43).1 c13) v14 hv45).2 c15) N21 hN51 sN22)
                exact K52 _ rfl
            exact K46 _ rfl
          · refine r_bipush dX11_number_44 (by decide) ?_
            refine r_iload_n dX11_number_46 rfl ?_
            refine r_imul dX11_number_47 ?_
            refine r_aload_n dX11_number_48 rfl ?_
            refine r_invV_i dX11_number_49 kM11_122 (by decide) (Nat.le_of_ble_eq_true rfl) rfl rfl (Nat.le_of_ble_eq_true rfl) (Nat.le_of_ble_eq_true rfl) (sh_o sN10 kk468 (by decide)) (m_here (by omega) sN10 ob11 ⟨_, rfl, ?_⟩)
            have K54 : ∀ v23 : Int, v23 = ((if iv N9 468 2 ≤ iv N9 468 3 then (-1 : Int) else iv N9 469 (iv N9 468 3).toNat)) → Run (e + 1) mX11_number 52 [some (vR 468), some (vI lo), some (vI hi), some (vI (w32 (v8 - (48 : Int))))] [vI v23, vI (w32 ((10 : Int) * (w32 (v8 - (48 : Int)))))] N9 Q := by
              intro v23 hv53
              refine r_iadd dX11_number_52 ?_
              refine r_bipush dX11_number_53 (by decide) ?_
              refine r_isub dX11_number_55 ?_
              have K56 : ∀ v24 : Int, v24 = (w32 ((w32 ((w32 ((10 : Int) * (w32 (v8 - (48 : Int))))) + v23)) - (48 : Int))) → Run (e + 1) mX11_number 56 [some (vR 468), some (vI lo), some (vI hi), some (vI (w32 (v8 - (48 : Int))))] [vI v24] N9 Q := by
                intro v24 hv55
                refine r_istore_n (ls2 := [some (vR 468), some (vI lo), some (vI hi), some (vI v24)]) dX11_number_56 (Nat.le_of_ble_eq_true rfl) rfl ?_
                refine r_aload_n dX11_number_57 rfl ?_
                refine r_dupR dX11_number_58 ?_
                refine r_get0 dX11_number_59 kF11_119 (sh_o sN10 kk468 (by decide)) ?_
                refine r_iconst dX11_number_62 (by decide) ?_
                refine r_iadd dX11_number_63 ?_
                refine r_put0 dX11_number_64 kF11_119 (sh_o sN10 kk468 (by decide)) (Or.inl rfl) ?_
                have K58 : ∀ N25 : jM, N25 = (si N9 468 3 (w32 ((iv N9 468 3) + (1 : Int)))) → Run (e + 1) mX11_number 67 [some (vR 468), some (vI lo), some (vI hi), some (vI v24)] [] N25 Q := by
                  intro N25 hN57
                  have sN26 : Shp N25 := by rw [hN57]; exact sN10
                  refine r_aload_n dX11_number_67 rfl ?_
                  have ob27 := ((((((((h3.1 c6).2 v8 hv39) N9 hN41 sN10).2 v12 hv43).2 c13) v23 hv53) v24 hv55) N25 hN57 sN26).1
                  refine r_invV_i dX11_number_68 kM11_122 (by decide) (Nat.le_of_ble_eq_true rfl) rfl rfl (Nat.le_of_ble_eq_true rfl) (Nat.le_of_ble_eq_true rfl) (sh_o sN26 kk468 (by decide)) (m_here (by omega) sN26 ob27 ⟨_, rfl, ?_⟩)
                  have K60 : ∀ v28 : Int, v28 = ((if iv N25 468 2 ≤ iv N25 468 3 then (-1 : Int) else iv N25 469 (iv N25 468 3).toNat)) → Run (e + 1) mX11_number 71 [some (vR 468), some (vI lo), some (vI hi), some (vI v24)] [vI v28] N25 Q := by
                    intro v28 hv59
                    refine r_invS_i dX11_number_71 (by decide) kXn11_141 kM11_141 (by decide) (Nat.le_of_ble_eq_true rfl) rfl rfl (Nat.le_of_ble_eq_true rfl) (Nat.le_of_ble_eq_true rfl) (m_isDigit (by omega) sN26 ⟨_, rfl, ?_⟩)
                    refine r_if_eq dX11_number_74 rfl (fun c29 => ?_) (fun c29 => ?_)
                    · refine r_iload_n dX11_number_84 rfl ?_
                      refine r_iload_n dX11_number_85 rfl ?_
                      refine r_iload_n dX11_number_86 rfl ?_
                      refine r_invS_i dX11_number_87 (by decide) kXn11_224 kM11_224 (by decide) (Nat.le_of_ble_eq_true rfl) rfl rfl (Nat.le_of_ble_eq_true rfl) (Nat.le_of_ble_eq_true rfl) (m_in (by omega) sN26 ⟨_, rfl, ?_⟩)
                      refine r_if_ne dX11_number_90 rfl (fun c30 => ?_) (fun c30 => ?_)
                      · refine r_iload_n dX11_number_107 rfl ?_
                        exact r_iret dX11_number_108 rfl (((((((((((h3.1 c6).2 v8 hv39) N9 hN41 sN10).2 v12 hv43).2 c13) v23 hv53) v24 hv55) N25 hN57 sN26).2 v28 hv59).1 c29).1 c30)
                      · refine r_aload_n dX11_number_93 rfl ?_
                        refine r_dupR dX11_number_94 ?_
                        refine r_get0 dX11_number_95 kF11_119 (sh_o sN26 kk468 (by decide)) ?_
                        refine r_iconst dX11_number_98 (by decide) ?_
                        refine r_isub dX11_number_99 ?_
                        refine r_put0 dX11_number_100 kF11_119 (sh_o sN26 kk468 (by decide)) (Or.inl rfl) ?_
                        have K62 : ∀ N31 : jM, N31 = (si N25 468 3 (w32 ((iv N25 468 3) - (1 : Int)))) → Run (e + 1) mX11_number 103 [some (vR 468), some (vI lo), some (vI hi), some (vI v24)] [] N31 Q := by
                          intro N31 hN61
                          have sN32 : Shp N31 := by rw [hN61]; exact sN26
                          refine r_aload_n dX11_number_103 rfl ?_
                          refine r_invV_v dX11_number_104 kM11_135 (by decide) (Nat.le_of_ble_eq_true rfl) rfl rfl (Nat.le_of_ble_eq_true rfl) (Nat.le_of_ble_eq_true rfl) (sh_o sN32 kk468 (by decide)) (m_bad (by omega) sN32 ⟨rfl, ?_⟩)
                          have K64 : ∀ N33 : jM, N33 = (si N31 468 4 (if iv N31 468 4 = -1 then iv N31 468 3 else iv N31 468 4)) → Run (e + 1) mX11_number 107 [some (vR 468), some (vI lo), some (vI hi), some (vI v24)] [] N33 Q := by
                            intro N33 hN63
                            have sN34 : Shp N33 := by rw [hN63]; exact sN32
                            refine r_iload_n dX11_number_107 rfl ?_
                            exact r_iret dX11_number_108 rfl (((((((((((((h3.1 c6).2 v8 hv39) N9 hN41 sN10).2 v12 hv43).2 c13) v23 hv53) v24 hv55) N25 hN57 sN26).2 v28 hv59).1 c29).2 c30) N31 hN61 sN32) N33 hN63 sN34)
                          exact K64 _ rfl
                        exact K62 _ rfl
                    · refine r_aload_n dX11_number_77 rfl ?_
                      refine r_invV_v dX11_number_78 kM11_135 (by decide) (Nat.le_of_ble_eq_true rfl) rfl rfl (Nat.le_of_ble_eq_true rfl) (Nat.le_of_ble_eq_true rfl) (sh_o sN26 kk468 (by decide)) (m_bad (by omega) sN26 ⟨rfl, ?_⟩)
                      have K66 : ∀ N35 : jM, N35 = (si N25 468 4 (if iv N25 468 4 = -1 then iv N25 468 3 else iv N25 468 4)) → Run (e + 1) mX11_number 81 [some (vR 468), some (vI lo), some (vI hi), some (vI v24)] [] N35 Q := by
                        intro N35 hN65
                        have sN36 : Shp N35 := by rw [hN65]; exact sN26
                        refine r_goto (tgt := 107) dX11_number_81 rfl ?_
                        refine r_iload_n dX11_number_107 rfl ?_
                        exact r_iret dX11_number_108 rfl (((((((((((h3.1 c6).2 v8 hv39) N9 hN41 sN10).2 v12 hv43).2 c13) v23 hv53) v24 hv55) N25 hN57 sN26).2 v28 hv59).2 c29) N35 hN65 sN36)
                      exact K66 _ rfl
                  exact K60 _ rfl
                exact K58 _ rfl
              exact K56 _ rfl
            exact K54 _ rfl
        exact K44 _ rfl
      exact K42 _ rfl
    exact K40 _ rfl
  · refine r_aload_n dX11_number_10 rfl ?_
    refine r_invV_v dX11_number_11 kM11_135 (by decide) (Nat.le_of_ble_eq_true rfl) rfl rfl (Nat.le_of_ble_eq_true rfl) (Nat.le_of_ble_eq_true rfl) (sh_o s5 kk468 (by decide)) (m_bad (by omega) s5 ⟨rfl, ?_⟩)
    have K68 : ∀ N37 : jM, N37 = (si M2 468 4 (if iv M2 468 4 = -1 then iv M2 468 3 else iv M2 468 4)) → Run (e + 1) mX11_number 14 [some (vR 468), some (vI lo), some (vI hi), none] [] N37 Q := by
      intro N37 hN67
      have sN38 : Shp N37 := by rw [hN67]; exact s5
      refine r_iload_n dX11_number_14 rfl ?_
      exact r_iret dX11_number_15 rfl ((h3.2 c6) N37 hN67 sN38)
    exact K68 _ rfl
theorem vn_itemOf {e : Nat} {M : jM} {Q : Option jV → jM → Prop} {st : Int} {c : Int} (he : 6 ≤ e) (hS : Shp M)
  (h : (st = 112 → (∀ v2 : Int, v2 = ((if c ≠ (98 : Int) then (if c ≠ (100 : Int) then (if c ≠ (109 : Int) then (-1 : Int) else (2 : Int)) else (1 : Int)) else (0 : Int))) → (Q (some (vI v2)) M))) ∧ (st = 115 → (∀ v3 : Int, v3 = ((if c ≠ (119 : Int) then (if c ≠ (103 : Int) then (if c ≠ (98 : Int) then (if c ≠ (107 : Int) then (-1 : Int) else (3 : Int)) else (2 : Int)) else (1 : Int)) else (0 : Int))) → (Q (some (vI v3)) M))) ∧ ((st ≠ 112 ∧ st ≠ 115) → (∀ v4 : Int, v4 = ((if c ≠ (97 : Int) then (if c ≠ (111 : Int) then (if c ≠ (107 : Int) then (if c ≠ (115 : Int) then (-1 : Int) else (3 : Int)) else (2 : Int)) else (1 : Int)) else (0 : Int))) → (Q (some (vI v4)) M)))) :
  Call (e + 1) mX11_itemOf [vI st, vI c] M Q := by
  show Run (e + 1) mX11_itemOf 0 [some (vI st), some (vI c)] [] M Q
  refine r_iload_n dX11_itemOf_0 rfl ?_
  by_cases c1_0 : st = 112
  · refine r_look_eq (tgt := 70) (o := 69) dX11_itemOf_1 c1_0 rfl (by decide) rfl ?_
    refine r_iload_n dX11_itemOf_70 rfl ?_
    refine r_bipush dX11_itemOf_71 (by decide) ?_
    have K5 : Run (e + 1) mX11_itemOf 101 [some (vI st), some (vI c)] [vI (if c ≠ (98 : Int) then (if c ≠ (100 : Int) then (if c ≠ (109 : Int) then (-1 : Int) else (2 : Int)) else (1 : Int)) else (0 : Int))] M Q := by
      have K7 : ∀ v2 : Int, v2 = ((if c ≠ (98 : Int) then (if c ≠ (100 : Int) then (if c ≠ (109 : Int) then (-1 : Int) else (2 : Int)) else (1 : Int)) else (0 : Int))) → Run (e + 1) mX11_itemOf 101 [some (vI st), some (vI c)] [vI v2] M Q := by
        intro v2 hv6
        exact r_iret dX11_itemOf_101 rfl ((h.1 c1_0) v2 hv6)
      exact K7 _ rfl
    refine r_icmp_ne dX11_itemOf_73 rfl (fun q8 => ?_) (fun q8 => ?_)
    · rw [if_pos q8] at K5
      refine r_iload_n dX11_itemOf_80 rfl ?_
      refine r_bipush dX11_itemOf_81 (by decide) ?_
      refine r_icmp_ne dX11_itemOf_83 rfl (fun q10 => ?_) (fun q10 => ?_)
      · rw [if_pos q10] at K5
        refine r_iload_n dX11_itemOf_90 rfl ?_
        refine r_bipush dX11_itemOf_91 (by decide) ?_
        refine r_icmp_ne dX11_itemOf_93 rfl (fun q12 => ?_) (fun q12 => ?_)
        · rw [if_pos q12] at K5
          refine r_iconst dX11_itemOf_100 (by decide) ?_
          exact K5
        · rw [if_neg q12] at K5
          refine r_iconst dX11_itemOf_96 (by decide) ?_
          refine r_goto (tgt := 101) dX11_itemOf_97 rfl ?_
          exact K5
      · rw [if_neg q10] at K5
        refine r_iconst dX11_itemOf_86 (by decide) ?_
        refine r_goto (tgt := 101) dX11_itemOf_87 rfl ?_
        exact K5
    · rw [if_neg q8] at K5
      refine r_iconst dX11_itemOf_76 (by decide) ?_
      refine r_goto (tgt := 101) dX11_itemOf_77 rfl ?_
      exact K5
  by_cases c1_1 : st = 115
  · refine r_look_eq (tgt := 28) (o := 27) dX11_itemOf_1 c1_1 rfl (by decide) rfl ?_
    refine r_iload_n dX11_itemOf_28 rfl ?_
    refine r_bipush dX11_itemOf_29 (by decide) ?_
    have K14 : Run (e + 1) mX11_itemOf 69 [some (vI st), some (vI c)] [vI (if c ≠ (119 : Int) then (if c ≠ (103 : Int) then (if c ≠ (98 : Int) then (if c ≠ (107 : Int) then (-1 : Int) else (3 : Int)) else (2 : Int)) else (1 : Int)) else (0 : Int))] M Q := by
      have K16 : ∀ v3 : Int, v3 = ((if c ≠ (119 : Int) then (if c ≠ (103 : Int) then (if c ≠ (98 : Int) then (if c ≠ (107 : Int) then (-1 : Int) else (3 : Int)) else (2 : Int)) else (1 : Int)) else (0 : Int))) → Run (e + 1) mX11_itemOf 69 [some (vI st), some (vI c)] [vI v3] M Q := by
        intro v3 hv15
        exact r_iret dX11_itemOf_69 rfl ((h.2.1 c1_1) v3 hv15)
      exact K16 _ rfl
    refine r_icmp_ne dX11_itemOf_31 rfl (fun q17 => ?_) (fun q17 => ?_)
    · rw [if_pos q17] at K14
      refine r_iload_n dX11_itemOf_38 rfl ?_
      refine r_bipush dX11_itemOf_39 (by decide) ?_
      refine r_icmp_ne dX11_itemOf_41 rfl (fun q19 => ?_) (fun q19 => ?_)
      · rw [if_pos q19] at K14
        refine r_iload_n dX11_itemOf_48 rfl ?_
        refine r_bipush dX11_itemOf_49 (by decide) ?_
        refine r_icmp_ne dX11_itemOf_51 rfl (fun q21 => ?_) (fun q21 => ?_)
        · rw [if_pos q21] at K14
          refine r_iload_n dX11_itemOf_58 rfl ?_
          refine r_bipush dX11_itemOf_59 (by decide) ?_
          refine r_icmp_ne dX11_itemOf_61 rfl (fun q23 => ?_) (fun q23 => ?_)
          · rw [if_pos q23] at K14
            refine r_iconst dX11_itemOf_68 (by decide) ?_
            exact K14
          · rw [if_neg q23] at K14
            refine r_iconst dX11_itemOf_64 (by decide) ?_
            refine r_goto (tgt := 69) dX11_itemOf_65 rfl ?_
            exact K14
        · rw [if_neg q21] at K14
          refine r_iconst dX11_itemOf_54 (by decide) ?_
          refine r_goto (tgt := 69) dX11_itemOf_55 rfl ?_
          exact K14
      · rw [if_neg q19] at K14
        refine r_iconst dX11_itemOf_44 (by decide) ?_
        refine r_goto (tgt := 69) dX11_itemOf_45 rfl ?_
        exact K14
    · rw [if_neg q17] at K14
      refine r_iconst dX11_itemOf_34 (by decide) ?_
      refine r_goto (tgt := 69) dX11_itemOf_35 rfl ?_
      exact K14
  refine r_look (tgt := 102) (o := 101) dX11_itemOf_1 rfl (by simp [Op.lookupswitch.offset, Ne.symm c1_0, Ne.symm c1_1]) rfl ?_
  refine r_iload_n dX11_itemOf_102 rfl ?_
  refine r_bipush dX11_itemOf_103 (by decide) ?_
  have K25 : Run (e + 1) mX11_itemOf 143 [some (vI st), some (vI c)] [vI (if c ≠ (97 : Int) then (if c ≠ (111 : Int) then (if c ≠ (107 : Int) then (if c ≠ (115 : Int) then (-1 : Int) else (3 : Int)) else (2 : Int)) else (1 : Int)) else (0 : Int))] M Q := by
    have K27 : ∀ v4 : Int, v4 = ((if c ≠ (97 : Int) then (if c ≠ (111 : Int) then (if c ≠ (107 : Int) then (if c ≠ (115 : Int) then (-1 : Int) else (3 : Int)) else (2 : Int)) else (1 : Int)) else (0 : Int))) → Run (e + 1) mX11_itemOf 143 [some (vI st), some (vI c)] [vI v4] M Q := by
      intro v4 hv26
      exact r_iret dX11_itemOf_143 rfl ((h.2.2 ⟨c1_0, c1_1⟩) v4 hv26)
    exact K27 _ rfl
  refine r_icmp_ne dX11_itemOf_105 rfl (fun q28 => ?_) (fun q28 => ?_)
  · rw [if_pos q28] at K25
    refine r_iload_n dX11_itemOf_112 rfl ?_
    refine r_bipush dX11_itemOf_113 (by decide) ?_
    refine r_icmp_ne dX11_itemOf_115 rfl (fun q30 => ?_) (fun q30 => ?_)
    · rw [if_pos q30] at K25
      refine r_iload_n dX11_itemOf_122 rfl ?_
      refine r_bipush dX11_itemOf_123 (by decide) ?_
      refine r_icmp_ne dX11_itemOf_125 rfl (fun q32 => ?_) (fun q32 => ?_)
      · rw [if_pos q32] at K25
        refine r_iload_n dX11_itemOf_132 rfl ?_
        refine r_bipush dX11_itemOf_133 (by decide) ?_
        refine r_icmp_ne dX11_itemOf_135 rfl (fun q34 => ?_) (fun q34 => ?_)
        · rw [if_pos q34] at K25
          refine r_iconst dX11_itemOf_142 (by decide) ?_
          exact K25
        · rw [if_neg q34] at K25
          refine r_iconst dX11_itemOf_138 (by decide) ?_
          refine r_goto (tgt := 143) dX11_itemOf_139 rfl ?_
          exact K25
      · rw [if_neg q32] at K25
        refine r_iconst dX11_itemOf_128 (by decide) ?_
        refine r_goto (tgt := 143) dX11_itemOf_129 rfl ?_
        exact K25
    · rw [if_neg q30] at K25
      refine r_iconst dX11_itemOf_118 (by decide) ?_
      refine r_goto (tgt := 143) dX11_itemOf_119 rfl ?_
      exact K25
  · rw [if_neg q28] at K25
    refine r_iconst dX11_itemOf_108 (by decide) ?_
    refine r_goto (tgt := 143) dX11_itemOf_109 rfl ?_
    exact K25
theorem vn_lowest {e : Nat} {M : jM} {Q : Option jV → jM → Prop} {st : Int} {k : Int} (he : 6 ≤ e) (hS : Shp M)
  (h : (st = 112 → (Q (some (vI (if k ≠ (2 : Int) then (1 : Int) else (0 : Int)))) M)) ∧ (st = 115 → (Q (some (vI (if k = (1 : Int) then (1 : Int) else (if k ≠ (2 : Int) then (0 : Int) else (1 : Int))))) M)) ∧ ((st ≠ 112 ∧ st ≠ 115) → (Q (some (vI (if k ≠ (3 : Int) then (0 : Int) else (1 : Int)))) M))) :
  Call (e + 1) mX11_lowest [vI st, vI k] M Q := by
  show Run (e + 1) mX11_lowest 0 [some (vI st), some (vI k)] [] M Q
  refine r_iload_n dX11_lowest_0 rfl ?_
  by_cases c1_0 : st = 112
  · refine r_look_eq (tgt := 44) (o := 43) dX11_lowest_1 c1_0 rfl (by decide) rfl ?_
    refine r_iload_n dX11_lowest_44 rfl ?_
    refine r_iconst dX11_lowest_45 (by decide) ?_
    have K2 : Run (e + 1) mX11_lowest 54 [some (vI st), some (vI k)] [vI (if k ≠ (2 : Int) then (1 : Int) else (0 : Int))] M Q := by
      exact r_iret dX11_lowest_54 rfl (h.1 c1_0)
    refine r_icmp_ne dX11_lowest_46 rfl (fun q3 => ?_) (fun q3 => ?_)
    · rw [if_pos q3] at K2
      refine r_iconst dX11_lowest_53 (by decide) ?_
      exact K2
    · rw [if_neg q3] at K2
      refine r_iconst dX11_lowest_49 (by decide) ?_
      refine r_goto (tgt := 54) dX11_lowest_50 rfl ?_
      exact K2
  by_cases c1_1 : st = 115
  · refine r_look_eq (tgt := 28) (o := 27) dX11_lowest_1 c1_1 rfl (by decide) rfl ?_
    refine r_iload_n dX11_lowest_28 rfl ?_
    refine r_iconst dX11_lowest_29 (by decide) ?_
    have K5 : Run (e + 1) mX11_lowest 43 [some (vI st), some (vI k)] [vI (if k = (1 : Int) then (1 : Int) else (if k ≠ (2 : Int) then (0 : Int) else (1 : Int)))] M Q := by
      exact r_iret dX11_lowest_43 rfl (h.2.1 c1_1)
    refine r_icmp_eq dX11_lowest_30 rfl (fun q6 => ?_) (fun q6 => ?_)
    · rw [if_pos q6] at K5
      refine r_iconst dX11_lowest_38 (by decide) ?_
      refine r_goto (tgt := 43) dX11_lowest_39 rfl ?_
      exact K5
    · rw [if_neg q6] at K5
      refine r_iload_n dX11_lowest_33 rfl ?_
      refine r_iconst dX11_lowest_34 (by decide) ?_
      refine r_icmp_ne dX11_lowest_35 rfl (fun q8 => ?_) (fun q8 => ?_)
      · rw [if_pos q8] at K5
        refine r_iconst dX11_lowest_42 (by decide) ?_
        exact K5
      · rw [if_neg q8] at K5
        refine r_iconst dX11_lowest_38 (by decide) ?_
        refine r_goto (tgt := 43) dX11_lowest_39 rfl ?_
        exact K5
  refine r_look (tgt := 55) (o := 54) dX11_lowest_1 rfl (by simp [Op.lookupswitch.offset, Ne.symm c1_0, Ne.symm c1_1]) rfl ?_
  refine r_iload_n dX11_lowest_55 rfl ?_
  refine r_iconst dX11_lowest_56 (by decide) ?_
  have K10 : Run (e + 1) mX11_lowest 65 [some (vI st), some (vI k)] [vI (if k ≠ (3 : Int) then (0 : Int) else (1 : Int))] M Q := by
    exact r_iret dX11_lowest_65 rfl (h.2.2 ⟨c1_0, c1_1⟩)
  refine r_icmp_ne dX11_lowest_57 rfl (fun q11 => ?_) (fun q11 => ?_)
  · rw [if_pos q11] at K10
    refine r_iconst dX11_lowest_64 (by decide) ?_
    exact K10
  · rw [if_neg q11] at K10
    refine r_iconst dX11_lowest_60 (by decide) ?_
    refine r_goto (tgt := 65) dX11_lowest_61 rfl ?_
    exact K10
theorem vn_highest {e : Nat} {M : jM} {Q : Option jV → jM → Prop} {st : Int} {k : Int} (he : 6 ≤ e) (hS : Shp M)
  (h : (st = 112 → (Q (some (vI (if k ≠ (2 : Int) then (99 : Int) else (2 : Int)))) M)) ∧ (st = 115 → (Q (some (vI (if k ≠ (0 : Int) then (99 : Int) else (9 : Int)))) M)) ∧ ((st ≠ 112 ∧ st ≠ 115) → (∀ v2 : Int, v2 = ((if k ≠ (2 : Int) then (if k ≠ (3 : Int) then (7 : Int) else (9 : Int)) else (2 : Int))) → (Q (some (vI v2)) M)))) :
  Call (e + 1) mX11_highest [vI st, vI k] M Q := by
  show Run (e + 1) mX11_highest 0 [some (vI st), some (vI k)] [] M Q
  refine r_iload_n dX11_highest_0 rfl ?_
  by_cases c1_0 : st = 112
  · refine r_look_eq (tgt := 40) (o := 39) dX11_highest_1 c1_0 rfl (by decide) rfl ?_
    refine r_iload_n dX11_highest_40 rfl ?_
    refine r_iconst dX11_highest_41 (by decide) ?_
    have K3 : Run (e + 1) mX11_highest 51 [some (vI st), some (vI k)] [vI (if k ≠ (2 : Int) then (99 : Int) else (2 : Int))] M Q := by
      exact r_iret dX11_highest_51 rfl (h.1 c1_0)
    refine r_icmp_ne dX11_highest_42 rfl (fun q4 => ?_) (fun q4 => ?_)
    · rw [if_pos q4] at K3
      refine r_bipush dX11_highest_49 (by decide) ?_
      exact K3
    · rw [if_neg q4] at K3
      refine r_iconst dX11_highest_45 (by decide) ?_
      refine r_goto (tgt := 51) dX11_highest_46 rfl ?_
      exact K3
  by_cases c1_1 : st = 115
  · refine r_look_eq (tgt := 28) (o := 27) dX11_highest_1 c1_1 rfl (by decide) rfl ?_
    refine r_iload_n dX11_highest_28 rfl ?_
    have K6 : Run (e + 1) mX11_highest 39 [some (vI st), some (vI k)] [vI (if k ≠ (0 : Int) then (99 : Int) else (9 : Int))] M Q := by
      exact r_iret dX11_highest_39 rfl (h.2.1 c1_1)
    refine r_if_ne dX11_highest_29 rfl (fun q7 => ?_) (fun q7 => ?_)
    · rw [if_pos q7] at K6
      refine r_bipush dX11_highest_37 (by decide) ?_
      exact K6
    · rw [if_neg q7] at K6
      refine r_bipush dX11_highest_32 (by decide) ?_
      refine r_goto (tgt := 39) dX11_highest_34 rfl ?_
      exact K6
  refine r_look (tgt := 52) (o := 51) dX11_highest_1 rfl (by simp [Op.lookupswitch.offset, Ne.symm c1_0, Ne.symm c1_1]) rfl ?_
  refine r_iload_n dX11_highest_52 rfl ?_
  refine r_iconst dX11_highest_53 (by decide) ?_
  have K9 : Run (e + 1) mX11_highest 73 [some (vI st), some (vI k)] [vI (if k ≠ (2 : Int) then (if k ≠ (3 : Int) then (7 : Int) else (9 : Int)) else (2 : Int))] M Q := by
    have K11 : ∀ v2 : Int, v2 = ((if k ≠ (2 : Int) then (if k ≠ (3 : Int) then (7 : Int) else (9 : Int)) else (2 : Int))) → Run (e + 1) mX11_highest 73 [some (vI st), some (vI k)] [vI v2] M Q := by
      intro v2 hv10
      exact r_iret dX11_highest_73 rfl ((h.2.2 ⟨c1_0, c1_1⟩) v2 hv10)
    exact K11 _ rfl
  refine r_icmp_ne dX11_highest_54 rfl (fun q12 => ?_) (fun q12 => ?_)
  · rw [if_pos q12] at K9
    refine r_iload_n dX11_highest_61 rfl ?_
    refine r_iconst dX11_highest_62 (by decide) ?_
    refine r_icmp_ne dX11_highest_63 rfl (fun q14 => ?_) (fun q14 => ?_)
    · rw [if_pos q14] at K9
      refine r_bipush dX11_highest_71 (by decide) ?_
      exact K9
    · rw [if_neg q14] at K9
      refine r_bipush dX11_highest_66 (by decide) ?_
      refine r_goto (tgt := 73) dX11_highest_68 rfl ?_
      exact K9
  · rw [if_neg q12] at K9
    refine r_iconst dX11_highest_57 (by decide) ?_
    refine r_goto (tgt := 73) dX11_highest_58 rfl ?_
    exact K9
theorem vn_usual {e : Nat} {M : jM} {Q : Option jV → jM → Prop} {st : Int} {k : Int} (he : 6 ≤ e) (hS : Shp M)
  (h : (st = 112 → (∀ v2 : Int, v2 = ((if k ≠ (0 : Int) then (if k ≠ (1 : Int) then (0 : Int) else (10 : Int)) else (9 : Int))) → (Q (some (vI v2)) M))) ∧ (st = 115 → (∀ v3 : Int, v3 = ((if k ≠ (0 : Int) then (if k ≠ (1 : Int) then (if k ≠ (2 : Int) then (20 : Int) else (60 : Int)) else (40 : Int)) else (3 : Int))) → (Q (some (vI v3)) M))) ∧ ((st ≠ 112 ∧ st ≠ 115) → (∀ v4 : Int, v4 = ((if k ≠ (1 : Int) then (if k ≠ (3 : Int) then (0 : Int) else (3 : Int)) else (1 : Int))) → (Q (some (vI v4)) M)))) :
  Call (e + 1) mX11_usual [vI st, vI k] M Q := by
  show Run (e + 1) mX11_usual 0 [some (vI st), some (vI k)] [] M Q
  refine r_iload_n dX11_usual_0 rfl ?_
  by_cases c1_0 : st = 112
  · refine r_look_eq (tgt := 59) (o := 58) dX11_usual_1 c1_0 rfl (by decide) rfl ?_
    refine r_iload_n dX11_usual_59 rfl ?_
    have K5 : Run (e + 1) mX11_usual 79 [some (vI st), some (vI k)] [vI (if k ≠ (0 : Int) then (if k ≠ (1 : Int) then (0 : Int) else (10 : Int)) else (9 : Int))] M Q := by
      have K7 : ∀ v2 : Int, v2 = ((if k ≠ (0 : Int) then (if k ≠ (1 : Int) then (0 : Int) else (10 : Int)) else (9 : Int))) → Run (e + 1) mX11_usual 79 [some (vI st), some (vI k)] [vI v2] M Q := by
        intro v2 hv6
        exact r_iret dX11_usual_79 rfl ((h.1 c1_0) v2 hv6)
      exact K7 _ rfl
    refine r_if_ne dX11_usual_60 rfl (fun q8 => ?_) (fun q8 => ?_)
    · rw [if_pos q8] at K5
      refine r_iload_n dX11_usual_68 rfl ?_
      refine r_iconst dX11_usual_69 (by decide) ?_
      refine r_icmp_ne dX11_usual_70 rfl (fun q10 => ?_) (fun q10 => ?_)
      · rw [if_pos q10] at K5
        refine r_iconst dX11_usual_78 (by decide) ?_
        exact K5
      · rw [if_neg q10] at K5
        refine r_bipush dX11_usual_73 (by decide) ?_
        refine r_goto (tgt := 79) dX11_usual_75 rfl ?_
        exact K5
    · rw [if_neg q8] at K5
      refine r_bipush dX11_usual_63 (by decide) ?_
      refine r_goto (tgt := 79) dX11_usual_65 rfl ?_
      exact K5
  by_cases c1_1 : st = 115
  · refine r_look_eq (tgt := 28) (o := 27) dX11_usual_1 c1_1 rfl (by decide) rfl ?_
    refine r_iload_n dX11_usual_28 rfl ?_
    have K12 : Run (e + 1) mX11_usual 58 [some (vI st), some (vI k)] [vI (if k ≠ (0 : Int) then (if k ≠ (1 : Int) then (if k ≠ (2 : Int) then (20 : Int) else (60 : Int)) else (40 : Int)) else (3 : Int))] M Q := by
      have K14 : ∀ v3 : Int, v3 = ((if k ≠ (0 : Int) then (if k ≠ (1 : Int) then (if k ≠ (2 : Int) then (20 : Int) else (60 : Int)) else (40 : Int)) else (3 : Int))) → Run (e + 1) mX11_usual 58 [some (vI st), some (vI k)] [vI v3] M Q := by
        intro v3 hv13
        exact r_iret dX11_usual_58 rfl ((h.2.1 c1_1) v3 hv13)
      exact K14 _ rfl
    refine r_if_ne dX11_usual_29 rfl (fun q15 => ?_) (fun q15 => ?_)
    · rw [if_pos q15] at K12
      refine r_iload_n dX11_usual_36 rfl ?_
      refine r_iconst dX11_usual_37 (by decide) ?_
      refine r_icmp_ne dX11_usual_38 rfl (fun q17 => ?_) (fun q17 => ?_)
      · rw [if_pos q17] at K12
        refine r_iload_n dX11_usual_46 rfl ?_
        refine r_iconst dX11_usual_47 (by decide) ?_
        refine r_icmp_ne dX11_usual_48 rfl (fun q19 => ?_) (fun q19 => ?_)
        · rw [if_pos q19] at K12
          refine r_bipush dX11_usual_56 (by decide) ?_
          exact K12
        · rw [if_neg q19] at K12
          refine r_bipush dX11_usual_51 (by decide) ?_
          refine r_goto (tgt := 58) dX11_usual_53 rfl ?_
          exact K12
      · rw [if_neg q17] at K12
        refine r_bipush dX11_usual_41 (by decide) ?_
        refine r_goto (tgt := 58) dX11_usual_43 rfl ?_
        exact K12
    · rw [if_neg q15] at K12
      refine r_iconst dX11_usual_32 (by decide) ?_
      refine r_goto (tgt := 58) dX11_usual_33 rfl ?_
      exact K12
  refine r_look (tgt := 80) (o := 79) dX11_usual_1 rfl (by simp [Op.lookupswitch.offset, Ne.symm c1_0, Ne.symm c1_1]) rfl ?_
  refine r_iload_n dX11_usual_80 rfl ?_
  refine r_iconst dX11_usual_81 (by decide) ?_
  have K21 : Run (e + 1) mX11_usual 99 [some (vI st), some (vI k)] [vI (if k ≠ (1 : Int) then (if k ≠ (3 : Int) then (0 : Int) else (3 : Int)) else (1 : Int))] M Q := by
    have K23 : ∀ v4 : Int, v4 = ((if k ≠ (1 : Int) then (if k ≠ (3 : Int) then (0 : Int) else (3 : Int)) else (1 : Int))) → Run (e + 1) mX11_usual 99 [some (vI st), some (vI k)] [vI v4] M Q := by
      intro v4 hv22
      exact r_iret dX11_usual_99 rfl ((h.2.2 ⟨c1_0, c1_1⟩) v4 hv22)
    exact K23 _ rfl
  refine r_icmp_ne dX11_usual_82 rfl (fun q24 => ?_) (fun q24 => ?_)
  · rw [if_pos q24] at K21
    refine r_iload_n dX11_usual_89 rfl ?_
    refine r_iconst dX11_usual_90 (by decide) ?_
    refine r_icmp_ne dX11_usual_91 rfl (fun q26 => ?_) (fun q26 => ?_)
    · rw [if_pos q26] at K21
      refine r_iconst dX11_usual_98 (by decide) ?_
      exact K21
    · rw [if_neg q26] at K21
      refine r_iconst dX11_usual_94 (by decide) ?_
      refine r_goto (tgt := 99) dX11_usual_95 rfl ?_
      exact K21
  · rw [if_neg q24] at K21
    refine r_iconst dX11_usual_85 (by decide) ?_
    refine r_goto (tgt := 99) dX11_usual_86 rfl ?_
    exact K21
theorem vn_isWhole {e : Nat} {M : jM} {Q : Option jV → jM → Prop}  (he : 6 ≤ e) (hS : Shp M)
  (h : Run (e + 1) mX11_isWhole 21 [some (vR 468), some (vI (if (iv M 468 20) ≤ (1 : Int) then (0 : Int) else (1 : Int))), some (vR 485), some (vI (0 : Int)), none, none, none] [] M Q) :
  Call (e + 1) mX11_isWhole [vR 468] M Q := by
  show Run (e + 1) mX11_isWhole 0 [some (vR 468), none, none, none, none, none, none] [] M Q
  refine r_aload_n dX11_isWhole_0 rfl ?_
  refine r_get0 dX11_isWhole_1 kF11_248 (sh_o hS kk468 (by decide)) ?_
  refine r_iconst dX11_isWhole_4 (by decide) ?_
  have K1 : Run (e + 1) mX11_isWhole 13 [some (vR 468), none, none, none, none, none, none] [vI (if (iv M 468 20) ≤ (1 : Int) then (0 : Int) else (1 : Int))] M Q := by
    refine r_istore_n (ls2 := [some (vR 468), some (vI (if (iv M 468 20) ≤ (1 : Int) then (0 : Int) else (1 : Int))), none, none, none, none, none]) dX11_isWhole_13 (Nat.le_of_ble_eq_true rfl) rfl ?_
    refine r_aload_n dX11_isWhole_14 rfl ?_
    refine r_getS (v := 485) dX11_isWhole_15 kF11_58 (sh_o hS kk468 (by decide)) (sh_f hS rr468_27 (by decide)) ?_
    refine r_astore_n (ls2 := [some (vR 468), some (vI (if (iv M 468 20) ≤ (1 : Int) then (0 : Int) else (1 : Int))), some (vR 485), none, none, none, none]) dX11_isWhole_18 (Nat.le_of_ble_eq_true rfl) rfl ?_
    refine r_iconst dX11_isWhole_19 (by decide) ?_
    refine r_istore_n (ls2 := [some (vR 468), some (vI (if (iv M 468 20) ≤ (1 : Int) then (0 : Int) else (1 : Int))), some (vR 485), some (vI (0 : Int)), none, none, none]) dX11_isWhole_20 (Nat.le_of_ble_eq_true rfl) rfl ?_
    exact h
  refine r_icmp_le dX11_isWhole_5 rfl (fun q2 => ?_) (fun q2 => ?_)
  · rw [if_pos q2] at K1
    refine r_iconst dX11_isWhole_12 (by decide) ?_
    exact K1
  · rw [if_neg q2] at K1
    refine r_iconst dX11_isWhole_8 (by decide) ?_
    refine r_goto (tgt := 13) dX11_isWhole_9 rfl ?_
    exact K1
theorem vn_isWhole_21 {e : Nat} {M : jM} {Q : Option jV → jM → Prop} {l1 : Int} {l3 : Int} {l4 : Option jV} {l5 : Option jV} {l6 : Option jV}  (he : 6 ≤ e) (hS : Shp M)
  (h : (((8 : Int) ≤ l3) → (Run (e + 1) mX11_isWhole 39 [some (vR 468), some (vI l1), some (vR 485), some (vI (0 : Int)), l4, l5, l6] [] M Q)) ∧ (¬ ((8 : Int) ≤ l3) → ((0 ≤ l3 ∧ l3 < 8) ∧ (∀ N6 : jM, N6 = (si M 485 (l3).toNat (0 : Int)) → Shp N6 → (Run (e + 1) mX11_isWhole 21 [some (vR 468), some (vI l1), some (vR 485), some (vI (w32 (l3 + (1 : Int)))), l4, l5, l6] [] N6 Q))))) :
  Run (e + 1) mX11_isWhole 21 [some (vR 468), some (vI l1), some (vR 485), some (vI l3), l4, l5, l6] [] M Q := by
  refine r_iload_n dX11_isWhole_21 rfl ?_
  refine r_bipush dX11_isWhole_22 (by decide) ?_
  refine r_icmp_ge dX11_isWhole_24 rfl (fun c4 => ?_) (fun c4 => ?_)
  · refine r_iconst dX11_isWhole_37 (by decide) ?_
    refine r_istore_n (ls2 := [some (vR 468), some (vI l1), some (vR 485), some (vI (0 : Int)), l4, l5, l6]) dX11_isWhole_38 (Nat.le_of_ble_eq_true rfl) rfl ?_
    exact (h.1 c4)
  · refine r_aload_n dX11_isWhole_27 rfl ?_
    refine r_iload_n dX11_isWhole_28 rfl ?_
    refine r_iconst dX11_isWhole_29 (by decide) ?_
    have ob5 := (h.2 c4).1
    refine r_iastore dX11_isWhole_30 ⟨jro_ix (sh_r hS kk485 (by decide)) ob5, (by decide)⟩ ?_
    have K9 : ∀ N6 : jM, N6 = (si M 485 (l3).toNat (0 : Int)) → Run (e + 1) mX11_isWhole 31 [some (vR 468), some (vI l1), some (vR 485), some (vI l3), l4, l5, l6] [] N6 Q := by
      intro N6 hN8
      have sN7 : Shp N6 := by rw [hN8]; exact hS
      refine r_iinc (ls2 := [some (vR 468), some (vI l1), some (vR 485), some (vI (w32 (l3 + (1 : Int)))), l4, l5, l6]) dX11_isWhole_31 rfl rfl ?_
      refine r_goto (tgt := 21) dX11_isWhole_34 rfl ?_
      exact ((h.2 c4).2 N6 hN8 sN7)
    exact K9 _ rfl
theorem vn_isWhole_39 {e : Nat} {M : jM} {Q : Option jV → jM → Prop} {l1 : Int} {l3 : Int} {l4 : Option jV} {l5 : Option jV} {l6 : Option jV}  (he : 6 ≤ e) (hS : Shp M)
  (h : (((iv M 468 21) ≤ l3) → ((l1 = 0 ∨ l1 = 1) ∧ Q (some (vI l1)) M)) ∧ (¬ ((iv M 468 21) ≤ l3) → ((0 ≤ (w32 ((w32 ((4 : Int) * l3)) + (0 : Int))) ∧ (w32 ((w32 ((4 : Int) * l3)) + (0 : Int))) < 48) ∧ ((0 ≤ (w32 ((w32 ((4 : Int) * l3)) + (1 : Int))) ∧ (w32 ((w32 ((4 : Int) * l3)) + (1 : Int))) < 48) ∧ ((0 ≤ (iv M 481 (w32 ((w32 ((4 : Int) * l3)) + (0 : Int))).toNat) ∧ (iv M 481 (w32 ((w32 ((4 : Int) * l3)) + (0 : Int))).toNat) < 8) ∧ (∀ v14 : Int, v14 = (iv M 485 (iv M 481 (w32 ((w32 ((4 : Int) * l3)) + (0 : Int))).toNat).toNat) → (∀ N15 : jM, N15 = (si M 485 (iv M 481 (w32 ((w32 ((4 : Int) * l3)) + (0 : Int))).toNat).toNat (w32 (v14 + (1 : Int)))) → Shp N15 → (((l1 = (0 : Int)) → (Run (e + 1) mX11_isWhole 39 [some (vR 468), some (vI (0 : Int)), some (vR 485), some (vI (w32 (l3 + (1 : Int)))), some (vI (iv M 481 (w32 ((w32 ((4 : Int) * l3)) + (0 : Int))).toNat)), some (vI (iv M 481 (w32 ((w32 ((4 : Int) * l3)) + (1 : Int))).toNat)), some (vI (if (iv M 468 20) ≤ (iv M 481 (w32 ((w32 ((4 : Int) * l3)) + (0 : Int))).toNat) then (0 : Int) else (if (iv M 468 20) ≤ (iv M 481 (w32 ((w32 ((4 : Int) * l3)) + (1 : Int))).toNat) then (0 : Int) else (if (iv M 481 (w32 ((w32 ((4 : Int) * l3)) + (0 : Int))).toNat) = (iv M 481 (w32 ((w32 ((4 : Int) * l3)) + (1 : Int))).toNat) then (0 : Int) else (1 : Int)))))] [] N15 Q)) ∧ (¬ (l1 = (0 : Int)) → ((((if (iv M 468 20) ≤ (iv M 481 (w32 ((w32 ((4 : Int) * l3)) + (0 : Int))).toNat) then (0 : Int) else (if (iv M 468 20) ≤ (iv M 481 (w32 ((w32 ((4 : Int) * l3)) + (1 : Int))).toNat) then (0 : Int) else (if (iv M 481 (w32 ((w32 ((4 : Int) * l3)) + (0 : Int))).toNat) = (iv M 481 (w32 ((w32 ((4 : Int) * l3)) + (1 : Int))).toNat) then (0 : Int) else (1 : Int)))) = (0 : Int)) → (Run (e + 1) mX11_isWhole 39 [some (vR 468), some (vI (0 : Int)), some (vR 485), some (vI (w32 (l3 + (1 : Int)))), some (vI (iv M 481 (w32 ((w32 ((4 : Int) * l3)) + (0 : Int))).toNat)), some (vI (iv M 481 (w32 ((w32 ((4 : Int) * l3)) + (1 : Int))).toNat)), some (vI (if (iv M 468 20) ≤ (iv M 481 (w32 ((w32 ((4 : Int) * l3)) + (0 : Int))).toNat) then (0 : Int) else (if (iv M 468 20) ≤ (iv M 481 (w32 ((w32 ((4 : Int) * l3)) + (1 : Int))).toNat) then (0 : Int) else (if (iv M 481 (w32 ((w32 ((4 : Int) * l3)) + (0 : Int))).toNat) = (iv M 481 (w32 ((w32 ((4 : Int) * l3)) + (1 : Int))).toNat) then (0 : Int) else (1 : Int)))))] [] N15 Q)) ∧ (¬ ((if (iv M 468 20) ≤ (iv M 481 (w32 ((w32 ((4 : Int) * l3)) + (0 : Int))).toNat) then (0 : Int) else (if (iv M 468 20) ≤ (iv M 481 (w32 ((w32 ((4 : Int) * l3)) + (1 : Int))).toNat) then (0 : Int) else (if (iv M 481 (w32 ((w32 ((4 : Int) * l3)) + (0 : Int))).toNat) = (iv M 481 (w32 ((w32 ((4 : Int) * l3)) + (1 : Int))).toNat) then (0 : Int) else (1 : Int)))) = (0 : Int)) → (∀ v19 : Int, v19 = (w32 ((3 : Int) * (iv M 481 (w32 ((w32 ((4 : Int) * l3)) + (0 : Int))).toNat))) → ((0 ≤ (w32 (v19 + (2 : Int))) ∧ (w32 (v19 + (2 : Int))) < 24) ∧ ((0 ≤ (w32 ((w32 ((4 : Int) * l3)) + (2 : Int))) ∧ (w32 ((w32 ((4 : Int) * l3)) + (2 : Int))) < 48) ∧ (∀ v22 : Int, v22 = ((fGm (iv N15 480 (w32 (v19 + (2 : Int))).toNat) (iv N15 481 (w32 ((w32 ((4 : Int) * l3)) + (2 : Int))).toNat))) → (((v22 = (0 : Int)) → (Run (e + 1) mX11_isWhole 39 [some (vR 468), some (vI (0 : Int)), some (vR 485), some (vI (w32 (l3 + (1 : Int)))), some (vI (iv M 481 (w32 ((w32 ((4 : Int) * l3)) + (0 : Int))).toNat)), some (vI (iv M 481 (w32 ((w32 ((4 : Int) * l3)) + (1 : Int))).toNat)), some (vI (if (iv M 468 20) ≤ (iv M 481 (w32 ((w32 ((4 : Int) * l3)) + (0 : Int))).toNat) then (0 : Int) else (if (iv M 468 20) ≤ (iv M 481 (w32 ((w32 ((4 : Int) * l3)) + (1 : Int))).toNat) then (0 : Int) else (if (iv M 481 (w32 ((w32 ((4 : Int) * l3)) + (0 : Int))).toNat) = (iv M 481 (w32 ((w32 ((4 : Int) * l3)) + (1 : Int))).toNat) then (0 : Int) else (1 : Int)))))] [] N15 Q)) ∧ (¬ (v22 = (0 : Int)) → (∀ v24 : Int, v24 = (iv N15 485 (iv M 481 (w32 ((w32 ((4 : Int) * l3)) + (0 : Int))).toNat).toNat) → (Run (e + 1) mX11_isWhole 39 [some (vR 468), some (vI (if (4 : Int) < v24 then (0 : Int) else (1 : Int))), some (vR 485), some (vI (w32 (l3 + (1 : Int)))), some (vI (iv M 481 (w32 ((w32 ((4 : Int) * l3)) + (0 : Int))).toNat)), some (vI (iv M 481 (w32 ((w32 ((4 : Int) * l3)) + (1 : Int))).toNat)), some (vI (if (iv M 468 20) ≤ (iv M 481 (w32 ((w32 ((4 : Int) * l3)) + (0 : Int))).toNat) then (0 : Int) else (if (iv M 468 20) ≤ (iv M 481 (w32 ((w32 ((4 : Int) * l3)) + (1 : Int))).toNat) then (0 : Int) else (if (iv M 481 (w32 ((w32 ((4 : Int) * l3)) + (0 : Int))).toNat) = (iv M 481 (w32 ((w32 ((4 : Int) * l3)) + (1 : Int))).toNat) then (0 : Int) else (1 : Int)))))] [] N15 Q))))))))))))))))))) :
  Run (e + 1) mX11_isWhole 39 [some (vR 468), some (vI l1), some (vR 485), some (vI l3), l4, l5, l6] [] M Q := by
  refine r_iload_n dX11_isWhole_39 rfl ?_
  refine r_aload_n dX11_isWhole_40 rfl ?_
  refine r_get0 dX11_isWhole_41 kF11_251 (sh_o hS kk468 (by decide)) ?_
  refine r_icmp_ge dX11_isWhole_44 rfl (fun c10 => ?_) (fun c10 => ?_)
  · refine r_iload_n dX11_isWhole_167 rfl ?_
    exact r_zret dX11_isWhole_168 rfl (h.1 c10).1 (h.1 c10).2
  · refine r_aload_n dX11_isWhole_47 rfl ?_
    refine r_getS (v := 481) dX11_isWhole_48 kF11_46 (sh_o hS kk468 (by decide)) (sh_f hS rr468_19 (by decide)) ?_
    refine r_iconst dX11_isWhole_51 (by decide) ?_
    refine r_iload_n dX11_isWhole_52 rfl ?_
    refine r_imul dX11_isWhole_53 ?_
    refine r_iconst dX11_isWhole_54 (by decide) ?_
    refine r_iadd dX11_isWhole_55 ?_
    have ob11 := (h.2 c10).1
    refine r_iaload dX11_isWhole_56 (jro_ix (sh_r hS kk481 (by decide)) ob11) ?_
    refine r_istore (ls2 := [some (vR 468), some (vI l1), some (vR 485), some (vI l3), some (vI (iv M 481 (w32 ((w32 ((4 : Int) * l3)) + (0 : Int))).toNat)), l5, l6]) dX11_isWhole_57 (Nat.le_of_ble_eq_true rfl) rfl ?_
    refine r_aload_n dX11_isWhole_59 rfl ?_
    refine r_getS (v := 481) dX11_isWhole_60 kF11_46 (sh_o hS kk468 (by decide)) (sh_f hS rr468_19 (by decide)) ?_
    refine r_iconst dX11_isWhole_63 (by decide) ?_
    refine r_iload_n dX11_isWhole_64 rfl ?_
    refine r_imul dX11_isWhole_65 ?_
    refine r_iconst dX11_isWhole_66 (by decide) ?_
    refine r_iadd dX11_isWhole_67 ?_
    have ob12 := (h.2 c10).2.1
    refine r_iaload dX11_isWhole_68 (jro_ix (sh_r hS kk481 (by decide)) ob12) ?_
    refine r_istore (ls2 := [some (vR 468), some (vI l1), some (vR 485), some (vI l3), some (vI (iv M 481 (w32 ((w32 ((4 : Int) * l3)) + (0 : Int))).toNat)), some (vI (iv M 481 (w32 ((w32 ((4 : Int) * l3)) + (1 : Int))).toNat)), l6]) dX11_isWhole_69 (Nat.le_of_ble_eq_true rfl) rfl ?_
    refine r_iload dX11_isWhole_71 rfl ?_
    refine r_aload_n dX11_isWhole_73 rfl ?_
    refine r_get0 dX11_isWhole_74 kF11_248 (sh_o hS kk468 (by decide)) ?_
    have K25 : Run (e + 1) mX11_isWhole 101 [some (vR 468), some (vI l1), some (vR 485), some (vI l3), some (vI (iv M 481 (w32 ((w32 ((4 : Int) * l3)) + (0 : Int))).toNat)), some (vI (iv M 481 (w32 ((w32 ((4 : Int) * l3)) + (1 : Int))).toNat)), l6] [vI (if (iv M 468 20) ≤ (iv M 481 (w32 ((w32 ((4 : Int) * l3)) + (0 : Int))).toNat) then (0 : Int) else (if (iv M 468 20) ≤ (iv M 481 (w32 ((w32 ((4 : Int) * l3)) + (1 : Int))).toNat) then (0 : Int) else (if (iv M 481 (w32 ((w32 ((4 : Int) * l3)) + (0 : Int))).toNat) = (iv M 481 (w32 ((w32 ((4 : Int) * l3)) + (1 : Int))).toNat) then (0 : Int) else (1 : Int))))] M Q := by
      refine r_istore (ls2 := [some (vR 468), some (vI l1), some (vR 485), some (vI l3), some (vI (iv M 481 (w32 ((w32 ((4 : Int) * l3)) + (0 : Int))).toNat)), some (vI (iv M 481 (w32 ((w32 ((4 : Int) * l3)) + (1 : Int))).toNat)), some (vI (if (iv M 468 20) ≤ (iv M 481 (w32 ((w32 ((4 : Int) * l3)) + (0 : Int))).toNat) then (0 : Int) else (if (iv M 468 20) ≤ (iv M 481 (w32 ((w32 ((4 : Int) * l3)) + (1 : Int))).toNat) then (0 : Int) else (if (iv M 481 (w32 ((w32 ((4 : Int) * l3)) + (0 : Int))).toNat) = (iv M 481 (w32 ((w32 ((4 : Int) * l3)) + (1 : Int))).toNat) then (0 : Int) else (1 : Int)))))]) dX11_isWhole_101 (Nat.le_of_ble_eq_true rfl) rfl ?_
      refine r_aload_n dX11_isWhole_103 rfl ?_
      refine r_iload dX11_isWhole_104 rfl ?_
      refine r_dup2IR dX11_isWhole_106 ?_
      have ob13 := (h.2 c10).2.2.1
      refine r_iaload dX11_isWhole_107 (jro_ix (sh_r hS kk485 (by decide)) ob13) ?_
      have K27 : ∀ v14 : Int, v14 = (iv M 485 (iv M 481 (w32 ((w32 ((4 : Int) * l3)) + (0 : Int))).toNat).toNat) → Run (e + 1) mX11_isWhole 108 [some (vR 468), some (vI l1), some (vR 485), some (vI l3), some (vI (iv M 481 (w32 ((w32 ((4 : Int) * l3)) + (0 : Int))).toNat)), some (vI (iv M 481 (w32 ((w32 ((4 : Int) * l3)) + (1 : Int))).toNat)), some (vI (if (iv M 468 20) ≤ (iv M 481 (w32 ((w32 ((4 : Int) * l3)) + (0 : Int))).toNat) then (0 : Int) else (if (iv M 468 20) ≤ (iv M 481 (w32 ((w32 ((4 : Int) * l3)) + (1 : Int))).toNat) then (0 : Int) else (if (iv M 481 (w32 ((w32 ((4 : Int) * l3)) + (0 : Int))).toNat) = (iv M 481 (w32 ((w32 ((4 : Int) * l3)) + (1 : Int))).toNat) then (0 : Int) else (1 : Int)))))] [vI v14, vI (iv M 481 (w32 ((w32 ((4 : Int) * l3)) + (0 : Int))).toNat), vR 485] M Q := by
        intro v14 hv26
        refine r_iconst dX11_isWhole_108 (by decide) ?_
        refine r_iadd dX11_isWhole_109 ?_
        refine r_iastore dX11_isWhole_110 ⟨jro_ix (sh_r hS kk485 (by decide)) ob13, (by decide)⟩ ?_
        have K29 : ∀ N15 : jM, N15 = (si M 485 (iv M 481 (w32 ((w32 ((4 : Int) * l3)) + (0 : Int))).toNat).toNat (w32 (v14 + (1 : Int)))) → Run (e + 1) mX11_isWhole 111 [some (vR 468), some (vI l1), some (vR 485), some (vI l3), some (vI (iv M 481 (w32 ((w32 ((4 : Int) * l3)) + (0 : Int))).toNat)), some (vI (iv M 481 (w32 ((w32 ((4 : Int) * l3)) + (1 : Int))).toNat)), some (vI (if (iv M 468 20) ≤ (iv M 481 (w32 ((w32 ((4 : Int) * l3)) + (0 : Int))).toNat) then (0 : Int) else (if (iv M 468 20) ≤ (iv M 481 (w32 ((w32 ((4 : Int) * l3)) + (1 : Int))).toNat) then (0 : Int) else (if (iv M 481 (w32 ((w32 ((4 : Int) * l3)) + (0 : Int))).toNat) = (iv M 481 (w32 ((w32 ((4 : Int) * l3)) + (1 : Int))).toNat) then (0 : Int) else (1 : Int)))))] [] N15 Q := by
          intro N15 hN28
          have sN16 : Shp N15 := by rw [hN28]; exact hS
          refine r_iload_n dX11_isWhole_111 rfl ?_
          refine r_if_eq dX11_isWhole_112 rfl (fun c17 => ?_) (fun c17 => ?_)
          · refine r_iconst dX11_isWhole_159 (by decide) ?_
            refine r_istore_n (ls2 := [some (vR 468), some (vI (0 : Int)), some (vR 485), some (vI l3), some (vI (iv M 481 (w32 ((w32 ((4 : Int) * l3)) + (0 : Int))).toNat)), some (vI (iv M 481 (w32 ((w32 ((4 : Int) * l3)) + (1 : Int))).toNat)), some (vI (if (iv M 468 20) ≤ (iv M 481 (w32 ((w32 ((4 : Int) * l3)) + (0 : Int))).toNat) then (0 : Int) else (if (iv M 468 20) ≤ (iv M 481 (w32 ((w32 ((4 : Int) * l3)) + (1 : Int))).toNat) then (0 : Int) else (if (iv M 481 (w32 ((w32 ((4 : Int) * l3)) + (0 : Int))).toNat) = (iv M 481 (w32 ((w32 ((4 : Int) * l3)) + (1 : Int))).toNat) then (0 : Int) else (1 : Int)))))]) dX11_isWhole_160 (Nat.le_of_ble_eq_true rfl) rfl ?_
            refine r_iinc (ls2 := [some (vR 468), some (vI (0 : Int)), some (vR 485), some (vI (w32 (l3 + (1 : Int)))), some (vI (iv M 481 (w32 ((w32 ((4 : Int) * l3)) + (0 : Int))).toNat)), some (vI (iv M 481 (w32 ((w32 ((4 : Int) * l3)) + (1 : Int))).toNat)), some (vI (if (iv M 468 20) ≤ (iv M 481 (w32 ((w32 ((4 : Int) * l3)) + (0 : Int))).toNat) then (0 : Int) else (if (iv M 468 20) ≤ (iv M 481 (w32 ((w32 ((4 : Int) * l3)) + (1 : Int))).toNat) then (0 : Int) else (if (iv M 481 (w32 ((w32 ((4 : Int) * l3)) + (0 : Int))).toNat) = (iv M 481 (w32 ((w32 ((4 : Int) * l3)) + (1 : Int))).toNat) then (0 : Int) else (1 : Int)))))]) dX11_isWhole_161 rfl rfl ?_
            refine r_goto (tgt := 39) dX11_isWhole_164 rfl ?_
            exact ((((h.2 c10).2.2.2 v14 hv26) N15 hN28 sN16).1 c17)
          · refine r_iload dX11_isWhole_115 rfl ?_
            refine r_if_eq dX11_isWhole_117 rfl (fun c18 => ?_) (fun c18 => ?_)
            · refine r_iconst dX11_isWhole_159 (by decide) ?_
              refine r_istore_n (ls2 := [some (vR 468), some (vI (0 : Int)), some (vR 485), some (vI l3), some (vI (iv M 481 (w32 ((w32 ((4 : Int) * l3)) + (0 : Int))).toNat)), some (vI (iv M 481 (w32 ((w32 ((4 : Int) * l3)) + (1 : Int))).toNat)), some (vI (if (iv M 468 20) ≤ (iv M 481 (w32 ((w32 ((4 : Int) * l3)) + (0 : Int))).toNat) then (0 : Int) else (if (iv M 468 20) ≤ (iv M 481 (w32 ((w32 ((4 : Int) * l3)) + (1 : Int))).toNat) then (0 : Int) else (if (iv M 481 (w32 ((w32 ((4 : Int) * l3)) + (0 : Int))).toNat) = (iv M 481 (w32 ((w32 ((4 : Int) * l3)) + (1 : Int))).toNat) then (0 : Int) else (1 : Int)))))]) dX11_isWhole_160 (Nat.le_of_ble_eq_true rfl) rfl ?_
              refine r_iinc (ls2 := [some (vR 468), some (vI (0 : Int)), some (vR 485), some (vI (w32 (l3 + (1 : Int)))), some (vI (iv M 481 (w32 ((w32 ((4 : Int) * l3)) + (0 : Int))).toNat)), some (vI (iv M 481 (w32 ((w32 ((4 : Int) * l3)) + (1 : Int))).toNat)), some (vI (if (iv M 468 20) ≤ (iv M 481 (w32 ((w32 ((4 : Int) * l3)) + (0 : Int))).toNat) then (0 : Int) else (if (iv M 468 20) ≤ (iv M 481 (w32 ((w32 ((4 : Int) * l3)) + (1 : Int))).toNat) then (0 : Int) else (if (iv M 481 (w32 ((w32 ((4 : Int) * l3)) + (0 : Int))).toNat) = (iv M 481 (w32 ((w32 ((4 : Int) * l3)) + (1 : Int))).toNat) then (0 : Int) else (1 : Int)))))]) dX11_isWhole_161 rfl rfl ?_
              refine r_goto (tgt := 39) dX11_isWhole_164 rfl ?_
              exact (((((h.2 c10).2.2.2 v14 hv26) N15 hN28 sN16).2 c17).1 c18)
            · refine r_aload_n dX11_isWhole_120 rfl ?_
              refine r_getS (v := 480) dX11_isWhole_121 kF11_43 (sh_o sN16 kk468 (by decide)) (sh_f sN16 rr468_18 (by decide)) ?_
              refine r_iconst dX11_isWhole_124 (by decide) ?_
              refine r_iload dX11_isWhole_125 rfl ?_
              refine r_imul dX11_isWhole_127 ?_
              have K31 : ∀ v19 : Int, v19 = (w32 ((3 : Int) * (iv M 481 (w32 ((w32 ((4 : Int) * l3)) + (0 : Int))).toNat))) → Run (e + 1) mX11_isWhole 128 [some (vR 468), some (vI l1), some (vR 485), some (vI l3), some (vI (iv M 481 (w32 ((w32 ((4 : Int) * l3)) + (0 : Int))).toNat)), some (vI (iv M 481 (w32 ((w32 ((4 : Int) * l3)) + (1 : Int))).toNat)), some (vI (if (iv M 468 20) ≤ (iv M 481 (w32 ((w32 ((4 : Int) * l3)) + (0 : Int))).toNat) then (0 : Int) else (if (iv M 468 20) ≤ (iv M 481 (w32 ((w32 ((4 : Int) * l3)) + (1 : Int))).toNat) then (0 : Int) else (if (iv M 481 (w32 ((w32 ((4 : Int) * l3)) + (0 : Int))).toNat) = (iv M 481 (w32 ((w32 ((4 : Int) * l3)) + (1 : Int))).toNat) then (0 : Int) else (1 : Int)))))] [vI v19, vR 480] N15 Q := by
                intro v19 hv30
                refine r_iconst dX11_isWhole_128 (by decide) ?_
                refine r_iadd dX11_isWhole_129 ?_
                have ob20 := ((((((h.2 c10).2.2.2 v14 hv26) N15 hN28 sN16).2 c17).2 c18) v19 hv30).1
                refine r_iaload dX11_isWhole_130 (jro_ix (sh_r sN16 kk480 (by decide)) ob20) ?_
                refine r_aload_n dX11_isWhole_131 rfl ?_
                refine r_getS (v := 481) dX11_isWhole_132 kF11_46 (sh_o sN16 kk468 (by decide)) (sh_f sN16 rr468_19 (by decide)) ?_
                refine r_iconst dX11_isWhole_135 (by decide) ?_
                refine r_iload_n dX11_isWhole_136 rfl ?_
                refine r_imul dX11_isWhole_137 ?_
                refine r_iconst dX11_isWhole_138 (by decide) ?_
                refine r_iadd dX11_isWhole_139 ?_
                have ob21 := ((((((h.2 c10).2.2.2 v14 hv26) N15 hN28 sN16).2 c17).2 c18) v19 hv30).2.1
                refine r_iaload dX11_isWhole_140 (jro_ix (sh_r sN16 kk481 (by decide)) ob21) ?_
                refine r_invS_i dX11_isWhole_141 (by decide) kXn11_254 kM11_254 (by decide) (Nat.le_of_ble_eq_true rfl) rfl rfl (Nat.le_of_ble_eq_true rfl) (Nat.le_of_ble_eq_true rfl) (m_goesInto (by omega) sN16 ⟨_, rfl, ?_⟩)
                have K33 : ∀ v22 : Int, v22 = ((fGm (iv N15 480 (w32 (v19 + (2 : Int))).toNat) (iv N15 481 (w32 ((w32 ((4 : Int) * l3)) + (2 : Int))).toNat))) → Run (e + 1) mX11_isWhole 144 [some (vR 468), some (vI l1), some (vR 485), some (vI l3), some (vI (iv M 481 (w32 ((w32 ((4 : Int) * l3)) + (0 : Int))).toNat)), some (vI (iv M 481 (w32 ((w32 ((4 : Int) * l3)) + (1 : Int))).toNat)), some (vI (if (iv M 468 20) ≤ (iv M 481 (w32 ((w32 ((4 : Int) * l3)) + (0 : Int))).toNat) then (0 : Int) else (if (iv M 468 20) ≤ (iv M 481 (w32 ((w32 ((4 : Int) * l3)) + (1 : Int))).toNat) then (0 : Int) else (if (iv M 481 (w32 ((w32 ((4 : Int) * l3)) + (0 : Int))).toNat) = (iv M 481 (w32 ((w32 ((4 : Int) * l3)) + (1 : Int))).toNat) then (0 : Int) else (1 : Int)))))] [vI v22] N15 Q := by
                  intro v22 hv32
                  refine r_if_eq dX11_isWhole_144 rfl (fun c23 => ?_) (fun c23 => ?_)
                  · refine r_iconst dX11_isWhole_159 (by decide) ?_
                    refine r_istore_n (ls2 := [some (vR 468), some (vI (0 : Int)), some (vR 485), some (vI l3), some (vI (iv M 481 (w32 ((w32 ((4 : Int) * l3)) + (0 : Int))).toNat)), some (vI (iv M 481 (w32 ((w32 ((4 : Int) * l3)) + (1 : Int))).toNat)), some (vI (if (iv M 468 20) ≤ (iv M 481 (w32 ((w32 ((4 : Int) * l3)) + (0 : Int))).toNat) then (0 : Int) else (if (iv M 468 20) ≤ (iv M 481 (w32 ((w32 ((4 : Int) * l3)) + (1 : Int))).toNat) then (0 : Int) else (if (iv M 481 (w32 ((w32 ((4 : Int) * l3)) + (0 : Int))).toNat) = (iv M 481 (w32 ((w32 ((4 : Int) * l3)) + (1 : Int))).toNat) then (0 : Int) else (1 : Int)))))]) dX11_isWhole_160 (Nat.le_of_ble_eq_true rfl) rfl ?_
                    refine r_iinc (ls2 := [some (vR 468), some (vI (0 : Int)), some (vR 485), some (vI (w32 (l3 + (1 : Int)))), some (vI (iv M 481 (w32 ((w32 ((4 : Int) * l3)) + (0 : Int))).toNat)), some (vI (iv M 481 (w32 ((w32 ((4 : Int) * l3)) + (1 : Int))).toNat)), some (vI (if (iv M 468 20) ≤ (iv M 481 (w32 ((w32 ((4 : Int) * l3)) + (0 : Int))).toNat) then (0 : Int) else (if (iv M 468 20) ≤ (iv M 481 (w32 ((w32 ((4 : Int) * l3)) + (1 : Int))).toNat) then (0 : Int) else (if (iv M 481 (w32 ((w32 ((4 : Int) * l3)) + (0 : Int))).toNat) = (iv M 481 (w32 ((w32 ((4 : Int) * l3)) + (1 : Int))).toNat) then (0 : Int) else (1 : Int)))))]) dX11_isWhole_161 rfl rfl ?_
                    refine r_goto (tgt := 39) dX11_isWhole_164 rfl ?_
                    exact ((((((((h.2 c10).2.2.2 v14 hv26) N15 hN28 sN16).2 c17).2 c18) v19 hv30).2.2 v22 hv32).1 c23)
                  · refine r_aload_n dX11_isWhole_147 rfl ?_
                    refine r_iload dX11_isWhole_148 rfl ?_
                    refine r_iaload dX11_isWhole_150 (jro_ix (sh_r sN16 kk485 (by decide)) ob13) ?_
                    have K35 : ∀ v24 : Int, v24 = (iv N15 485 (iv M 481 (w32 ((w32 ((4 : Int) * l3)) + (0 : Int))).toNat).toNat) → Run (e + 1) mX11_isWhole 151 [some (vR 468), some (vI l1), some (vR 485), some (vI l3), some (vI (iv M 481 (w32 ((w32 ((4 : Int) * l3)) + (0 : Int))).toNat)), some (vI (iv M 481 (w32 ((w32 ((4 : Int) * l3)) + (1 : Int))).toNat)), some (vI (if (iv M 468 20) ≤ (iv M 481 (w32 ((w32 ((4 : Int) * l3)) + (0 : Int))).toNat) then (0 : Int) else (if (iv M 468 20) ≤ (iv M 481 (w32 ((w32 ((4 : Int) * l3)) + (1 : Int))).toNat) then (0 : Int) else (if (iv M 481 (w32 ((w32 ((4 : Int) * l3)) + (0 : Int))).toNat) = (iv M 481 (w32 ((w32 ((4 : Int) * l3)) + (1 : Int))).toNat) then (0 : Int) else (1 : Int)))))] [vI v24] N15 Q := by
                      intro v24 hv34
                      refine r_iconst dX11_isWhole_151 (by decide) ?_
                      have K36 : Run (e + 1) mX11_isWhole 160 [some (vR 468), some (vI l1), some (vR 485), some (vI l3), some (vI (iv M 481 (w32 ((w32 ((4 : Int) * l3)) + (0 : Int))).toNat)), some (vI (iv M 481 (w32 ((w32 ((4 : Int) * l3)) + (1 : Int))).toNat)), some (vI (if (iv M 468 20) ≤ (iv M 481 (w32 ((w32 ((4 : Int) * l3)) + (0 : Int))).toNat) then (0 : Int) else (if (iv M 468 20) ≤ (iv M 481 (w32 ((w32 ((4 : Int) * l3)) + (1 : Int))).toNat) then (0 : Int) else (if (iv M 481 (w32 ((w32 ((4 : Int) * l3)) + (0 : Int))).toNat) = (iv M 481 (w32 ((w32 ((4 : Int) * l3)) + (1 : Int))).toNat) then (0 : Int) else (1 : Int)))))] [vI (if (4 : Int) < v24 then (0 : Int) else (1 : Int))] N15 Q := by
                        refine r_istore_n (ls2 := [some (vR 468), some (vI (if (4 : Int) < v24 then (0 : Int) else (1 : Int))), some (vR 485), some (vI l3), some (vI (iv M 481 (w32 ((w32 ((4 : Int) * l3)) + (0 : Int))).toNat)), some (vI (iv M 481 (w32 ((w32 ((4 : Int) * l3)) + (1 : Int))).toNat)), some (vI (if (iv M 468 20) ≤ (iv M 481 (w32 ((w32 ((4 : Int) * l3)) + (0 : Int))).toNat) then (0 : Int) else (if (iv M 468 20) ≤ (iv M 481 (w32 ((w32 ((4 : Int) * l3)) + (1 : Int))).toNat) then (0 : Int) else (if (iv M 481 (w32 ((w32 ((4 : Int) * l3)) + (0 : Int))).toNat) = (iv M 481 (w32 ((w32 ((4 : Int) * l3)) + (1 : Int))).toNat) then (0 : Int) else (1 : Int)))))]) dX11_isWhole_160 (Nat.le_of_ble_eq_true rfl) rfl ?_
                        refine r_iinc (ls2 := [some (vR 468), some (vI (if (4 : Int) < v24 then (0 : Int) else (1 : Int))), some (vR 485), some (vI (w32 (l3 + (1 : Int)))), some (vI (iv M 481 (w32 ((w32 ((4 : Int) * l3)) + (0 : Int))).toNat)), some (vI (iv M 481 (w32 ((w32 ((4 : Int) * l3)) + (1 : Int))).toNat)), some (vI (if (iv M 468 20) ≤ (iv M 481 (w32 ((w32 ((4 : Int) * l3)) + (0 : Int))).toNat) then (0 : Int) else (if (iv M 468 20) ≤ (iv M 481 (w32 ((w32 ((4 : Int) * l3)) + (1 : Int))).toNat) then (0 : Int) else (if (iv M 481 (w32 ((w32 ((4 : Int) * l3)) + (0 : Int))).toNat) = (iv M 481 (w32 ((w32 ((4 : Int) * l3)) + (1 : Int))).toNat) then (0 : Int) else (1 : Int)))))]) dX11_isWhole_161 rfl rfl ?_
                        refine r_goto (tgt := 39) dX11_isWhole_164 rfl ?_
                        exact (((((((((h.2 c10).2.2.2 v14 hv26) N15 hN28 sN16).2 c17).2 c18) v19 hv30).2.2 v22 hv32).2 c23) v24 hv34)
                      refine r_icmp_gt dX11_isWhole_152 rfl (fun q37 => ?_) (fun q37 => ?_)
                      · rw [if_pos q37] at K36
                        refine r_iconst dX11_isWhole_159 (by decide) ?_
                        exact K36
                      · rw [if_neg q37] at K36
                        refine r_iconst dX11_isWhole_155 (by decide) ?_
                        refine r_goto (tgt := 160) dX11_isWhole_156 rfl ?_
                        exact K36
                    exact K35 _ rfl
                exact K33 _ rfl
              exact K31 _ rfl
        exact K29 _ rfl
      exact K27 _ rfl
    refine r_icmp_ge dX11_isWhole_77 rfl (fun q39 => ?_) (fun q39 => ?_)
    · rw [if_pos q39] at K25
      refine r_iconst dX11_isWhole_100 (by decide) ?_
      exact K25
    · rw [if_neg q39] at K25
      refine r_iload dX11_isWhole_80 rfl ?_
      refine r_aload_n dX11_isWhole_82 rfl ?_
      refine r_get0 dX11_isWhole_83 kF11_248 (sh_o hS kk468 (by decide)) ?_
      refine r_icmp_ge dX11_isWhole_86 rfl (fun q41 => ?_) (fun q41 => ?_)
      · rw [if_pos q41] at K25
        refine r_iconst dX11_isWhole_100 (by decide) ?_
        exact K25
      · rw [if_neg q41] at K25
        refine r_iload dX11_isWhole_89 rfl ?_
        refine r_iload dX11_isWhole_91 rfl ?_
        refine r_icmp_eq dX11_isWhole_93 rfl (fun q43 => ?_) (fun q43 => ?_)
        · rw [if_pos q43] at K25
          refine r_iconst dX11_isWhole_100 (by decide) ?_
          exact K25
        · rw [if_neg q43] at K25
          refine r_iconst dX11_isWhole_96 (by decide) ?_
          refine r_goto (tgt := 101) dX11_isWhole_97 rfl ?_
          exact K25
theorem vn_readIsland {e : Nat} {M : jM} {Q : Option jV → jM → Prop}  (he : 6 ≤ e) (hS : Shp M)
  (h : ∀ N1 : jM, N1 = (si M 468 3 (0 : Int)) → Shp N1 → (∀ N3 : jM, N3 = (si N1 468 4 (-1 : Int)) → Shp N3 → (∀ N5 : jM, N5 = (si N3 468 20 (0 : Int)) → Shp N5 → (∀ N7 : jM, N7 = (si N5 468 21 (0 : Int)) → Shp N7 → (Run (e + 1) mX11_readIsland 24 [some (vR 468), some (vI (0 : Int)), some (vI (0 : Int)), none] [] N7 Q))))) :
  Call (e + 1) mX11_readIsland [vR 468] M Q := by
  show Run (e + 1) mX11_readIsland 0 [some (vR 468), none, none, none] [] M Q
  refine r_aload_n dX11_readIsland_0 rfl ?_
  refine r_iconst dX11_readIsland_1 (by decide) ?_
  refine r_put0 dX11_readIsland_2 kF11_119 (sh_o hS kk468 (by decide)) (Or.inl rfl) ?_
  have K10 : ∀ N1 : jM, N1 = (si M 468 3 (0 : Int)) → Run (e + 1) mX11_readIsland 5 [some (vR 468), none, none, none] [] N1 Q := by
    intro N1 hN9
    have sN2 : Shp N1 := by rw [hN9]; exact hS
    refine r_aload_n dX11_readIsland_5 rfl ?_
    refine r_iconst dX11_readIsland_6 (by decide) ?_
    refine r_put0 dX11_readIsland_7 kF11_126 (sh_o sN2 kk468 (by decide)) (Or.inl rfl) ?_
    have K12 : ∀ N3 : jM, N3 = (si N1 468 4 (-1 : Int)) → Run (e + 1) mX11_readIsland 10 [some (vR 468), none, none, none] [] N3 Q := by
      intro N3 hN11
      have sN4 : Shp N3 := by rw [hN11]; exact sN2
      refine r_aload_n dX11_readIsland_10 rfl ?_
      refine r_iconst dX11_readIsland_11 (by decide) ?_
      refine r_put0 dX11_readIsland_12 kF11_248 (sh_o sN4 kk468 (by decide)) (Or.inl rfl) ?_
      have K14 : ∀ N5 : jM, N5 = (si N3 468 20 (0 : Int)) → Run (e + 1) mX11_readIsland 15 [some (vR 468), none, none, none] [] N5 Q := by
        intro N5 hN13
        have sN6 : Shp N5 := by rw [hN13]; exact sN4
        refine r_aload_n dX11_readIsland_15 rfl ?_
        refine r_iconst dX11_readIsland_16 (by decide) ?_
        refine r_put0 dX11_readIsland_17 kF11_251 (sh_o sN6 kk468 (by decide)) (Or.inl rfl) ?_
        have K16 : ∀ N7 : jM, N7 = (si N5 468 21 (0 : Int)) → Run (e + 1) mX11_readIsland 20 [some (vR 468), none, none, none] [] N7 Q := by
          intro N7 hN15
          have sN8 : Shp N7 := by rw [hN15]; exact sN6
          refine r_iconst dX11_readIsland_20 (by decide) ?_
          refine r_istore_n (ls2 := [some (vR 468), some (vI (0 : Int)), none, none]) dX11_readIsland_21 (Nat.le_of_ble_eq_true rfl) rfl ?_
          refine r_iconst dX11_readIsland_22 (by decide) ?_
          refine r_istore_n (ls2 := [some (vR 468), some (vI (0 : Int)), some (vI (0 : Int)), none]) dX11_readIsland_23 (Nat.le_of_ble_eq_true rfl) rfl ?_
          exact ((((h N1 hN9 sN2) N3 hN11 sN4) N5 hN13 sN6) N7 hN15 sN8)
        exact K16 _ rfl
      exact K14 _ rfl
    exact K12 _ rfl
  exact K10 _ rfl
theorem vn_readIsland_24 {e : Nat} {M : jM} {Q : Option jV → jM → Prop} {l1 : Int} {l2 : Int} {l3 : Option jV}  (he : 6 ≤ e) (hS : Shp M)
  (h : (((4 : Int) ≤ l2) → (Run (e + 1) mX11_readIsland 49 [some (vR 468), some (vI l1), some (vI (1 : Int)), l3] [] M Q)) ∧ (¬ ((4 : Int) ≤ l2) → (Call e mX11_usual [vI (115 : Int), vI l2] M (fun r21 M19 => ∃ z18 : Int, r21 = some (vI z18) ∧ Shp M19 ∧ ((0 ≤ l2 ∧ l2 < 4) ∧ (∀ N24 : jM, N24 = (si M19 479 (l2).toNat z18) → Shp N24 → (Run (e + 1) mX11_readIsland 24 [some (vR 468), some (vI l1), some (vI (w32 (l2 + (1 : Int)))), l3] [] N24 Q))))))) :
  Run (e + 1) mX11_readIsland 24 [some (vR 468), some (vI l1), some (vI l2), l3] [] M Q := by
  refine r_iload_n dX11_readIsland_24 rfl ?_
  refine r_iconst dX11_readIsland_25 (by decide) ?_
  refine r_icmp_ge dX11_readIsland_26 rfl (fun c17 => ?_) (fun c17 => ?_)
  · refine r_iconst dX11_readIsland_47 (by decide) ?_
    refine r_istore_n (ls2 := [some (vR 468), some (vI l1), some (vI (1 : Int)), l3]) dX11_readIsland_48 (Nat.le_of_ble_eq_true rfl) rfl ?_
    exact (h.1 c17)
  · refine r_aload_n dX11_readIsland_29 rfl ?_
    refine r_getS (v := 479) dX11_readIsland_30 kF11_40 (sh_o hS kk468 (by decide)) (sh_f hS rr468_17 (by decide)) ?_
    refine r_iload_n dX11_readIsland_33 rfl ?_
    refine r_bipush dX11_readIsland_34 (by decide) ?_
    refine r_iload_n dX11_readIsland_36 rfl ?_
    refine r_invS_i dX11_readIsland_37 (by decide) kXn11_228 kM11_228 (by decide) (Nat.le_of_ble_eq_true rfl) rfl rfl (Nat.le_of_ble_eq_true rfl) (Nat.le_of_ble_eq_true rfl) (Call.mono (h.2 c17) (Nat.le_refl _) ?_)
    rintro _ M19 ⟨z18, rfl, s22, h20⟩
    refine ⟨_, rfl, ?_⟩
    have ob23 := h20.1
    refine r_iastore dX11_readIsland_40 ⟨jro_ix (sh_r s22 kk479 (by decide)) ob23, (by decide)⟩ ?_
    have K27 : ∀ N24 : jM, N24 = (si M19 479 (l2).toNat z18) → Run (e + 1) mX11_readIsland 41 [some (vR 468), some (vI l1), some (vI l2), l3] [] N24 Q := by
      intro N24 hN26
      have sN25 : Shp N24 := by rw [hN26]; exact s22
      refine r_iinc (ls2 := [some (vR 468), some (vI l1), some (vI (w32 (l2 + (1 : Int)))), l3]) dX11_readIsland_41 rfl rfl ?_
      refine r_goto (tgt := 24) dX11_readIsland_44 rfl ?_
      exact (h20.2 N24 hN26 sN25)
    exact K27 _ rfl
theorem vn_readIsland_49 {e : Nat} {M : jM} {Q : Option jV → jM → Prop} {l1 : Int} {l2 : Int} {l3 : Option jV}  (he : 6 ≤ e) (hS : Shp M)
  (h : ((l2 = (0 : Int)) → (Run (e + 1) mX11_readIsland 258 [some (vR 468), some (vI l1), some (vI l2), l3] [] M Q)) ∧ (¬ (l2 = (0 : Int)) → ((((iv M 468 4) ≠ (-1 : Int)) → (Run (e + 1) mX11_readIsland 258 [some (vR 468), some (vI l1), some (vI l2), l3] [] M Q)) ∧ (¬ ((iv M 468 4) ≠ (-1 : Int)) → (Call e mX11_look [vR 468] M (fun r33 M31 => ∃ z30 : Int, r33 = some (vI z30) ∧ Shp M31 ∧ (((z30 ≠ (115 : Int)) → (((z30 ≠ (112 : Int)) → (((z30 ≠ (116 : Int)) → (∀ N38 : jM, N38 = (si M31 468 4 (if iv M31 468 4 = -1 then iv M31 468 3 else iv M31 468 4)) → Shp N38 → (Run (e + 1) mX11_readIsland 214 [some (vR 468), some (vI l1), some (vI l2), some (vI z30)] [] N38 Q))) ∧ (¬ (z30 ≠ (116 : Int)) → ((((12 : Int) ≤ (iv M31 468 21)) → (∀ N41 : jM, N41 = (si M31 468 4 (if iv M31 468 4 = -1 then iv M31 468 3 else iv M31 468 4)) → Shp N41 → (Run (e + 1) mX11_readIsland 214 [some (vR 468), some (vI l1), some (vI l2), some (vI z30)] [] N41 Q))) ∧ (¬ ((12 : Int) ≤ (iv M31 468 21)) → (∀ N43 : jM, N43 = (si M31 468 3 (w32 ((iv M31 468 3) + (1 : Int)))) → Shp N43 → (Call e mX11_items [vR 468, vI z30, vR 481, vI (w32 ((4 : Int) * (iv N43 468 21))), vI (4 : Int)] N43 (fun r48 M46 => r48 = none ∧ Shp M46 ∧ (∀ N50 : jM, N50 = (si M46 468 21 (w32 ((iv M46 468 21) + (1 : Int)))) → Shp N50 → (Run (e + 1) mX11_readIsland 214 [some (vR 468), some (vI l1), some (vI l2), some (vI z30)] [] N50 Q)))))))))) ∧ (¬ (z30 ≠ (112 : Int)) → ((((8 : Int) ≤ (iv M31 468 20)) → (((z30 ≠ (116 : Int)) → (∀ N54 : jM, N54 = (si M31 468 4 (if iv M31 468 4 = -1 then iv M31 468 3 else iv M31 468 4)) → Shp N54 → (Run (e + 1) mX11_readIsland 214 [some (vR 468), some (vI l1), some (vI l2), some (vI z30)] [] N54 Q))) ∧ (¬ (z30 ≠ (116 : Int)) → ((((12 : Int) ≤ (iv M31 468 21)) → (∀ N57 : jM, N57 = (si M31 468 4 (if iv M31 468 4 = -1 then iv M31 468 3 else iv M31 468 4)) → Shp N57 → (Run (e + 1) mX11_readIsland 214 [some (vR 468), some (vI l1), some (vI l2), some (vI z30)] [] N57 Q))) ∧ (¬ ((12 : Int) ≤ (iv M31 468 21)) → (∀ N59 : jM, N59 = (si M31 468 3 (w32 ((iv M31 468 3) + (1 : Int)))) → Shp N59 → (Call e mX11_items [vR 468, vI z30, vR 481, vI (w32 ((4 : Int) * (iv N59 468 21))), vI (4 : Int)] N59 (fun r64 M62 => r64 = none ∧ Shp M62 ∧ (∀ N66 : jM, N66 = (si M62 468 21 (w32 ((iv M62 468 21) + (1 : Int)))) → Shp N66 → (Run (e + 1) mX11_readIsland 214 [some (vR 468), some (vI l1), some (vI l2), some (vI z30)] [] N66 Q)))))))))) ∧ (¬ ((8 : Int) ≤ (iv M31 468 20)) → (∀ N68 : jM, N68 = (si M31 468 3 (w32 ((iv M31 468 3) + (1 : Int)))) → Shp N68 → (Call e mX11_items [vR 468, vI z30, vR 480, vI (w32 ((3 : Int) * (iv N68 468 20))), vI (3 : Int)] N68 (fun r73 M71 => r73 = none ∧ Shp M71 ∧ (∀ N75 : jM, N75 = (si M71 468 20 (w32 ((iv M71 468 20) + (1 : Int)))) → Shp N75 → (Run (e + 1) mX11_readIsland 214 [some (vR 468), some (vI l1), some (vI l2), some (vI z30)] [] N75 Q)))))))))) ∧ (¬ (z30 ≠ (115 : Int)) → (((l1 ≠ (0 : Int)) → (((z30 ≠ (112 : Int)) → (((z30 ≠ (116 : Int)) → (∀ N80 : jM, N80 = (si M31 468 4 (if iv M31 468 4 = -1 then iv M31 468 3 else iv M31 468 4)) → Shp N80 → (Run (e + 1) mX11_readIsland 214 [some (vR 468), some (vI l1), some (vI l2), some (vI z30)] [] N80 Q))) ∧ (¬ (z30 ≠ (116 : Int)) → ((((12 : Int) ≤ (iv M31 468 21)) → (∀ N83 : jM, N83 = (si M31 468 4 (if iv M31 468 4 = -1 then iv M31 468 3 else iv M31 468 4)) → Shp N83 → (Run (e + 1) mX11_readIsland 214 [some (vR 468), some (vI l1), some (vI l2), some (vI z30)] [] N83 Q))) ∧ (¬ ((12 : Int) ≤ (iv M31 468 21)) → (∀ N85 : jM, N85 = (si M31 468 3 (w32 ((iv M31 468 3) + (1 : Int)))) → Shp N85 → (Call e mX11_items [vR 468, vI z30, vR 481, vI (w32 ((4 : Int) * (iv N85 468 21))), vI (4 : Int)] N85 (fun r90 M88 => r90 = none ∧ Shp M88 ∧ (∀ N92 : jM, N92 = (si M88 468 21 (w32 ((iv M88 468 21) + (1 : Int)))) → Shp N92 → (Run (e + 1) mX11_readIsland 214 [some (vR 468), some (vI l1), some (vI l2), some (vI z30)] [] N92 Q)))))))))) ∧ (¬ (z30 ≠ (112 : Int)) → ((((8 : Int) ≤ (iv M31 468 20)) → (((z30 ≠ (116 : Int)) → (∀ N96 : jM, N96 = (si M31 468 4 (if iv M31 468 4 = -1 then iv M31 468 3 else iv M31 468 4)) → Shp N96 → (Run (e + 1) mX11_readIsland 214 [some (vR 468), some (vI l1), some (vI l2), some (vI z30)] [] N96 Q))) ∧ (¬ (z30 ≠ (116 : Int)) → ((((12 : Int) ≤ (iv M31 468 21)) → (∀ N99 : jM, N99 = (si M31 468 4 (if iv M31 468 4 = -1 then iv M31 468 3 else iv M31 468 4)) → Shp N99 → (Run (e + 1) mX11_readIsland 214 [some (vR 468), some (vI l1), some (vI l2), some (vI z30)] [] N99 Q))) ∧ (¬ ((12 : Int) ≤ (iv M31 468 21)) → (∀ N101 : jM, N101 = (si M31 468 3 (w32 ((iv M31 468 3) + (1 : Int)))) → Shp N101 → (Call e mX11_items [vR 468, vI z30, vR 481, vI (w32 ((4 : Int) * (iv N101 468 21))), vI (4 : Int)] N101 (fun r106 M104 => r106 = none ∧ Shp M104 ∧ (∀ N108 : jM, N108 = (si M104 468 21 (w32 ((iv M104 468 21) + (1 : Int)))) → Shp N108 → (Run (e + 1) mX11_readIsland 214 [some (vR 468), some (vI l1), some (vI l2), some (vI z30)] [] N108 Q)))))))))) ∧ (¬ ((8 : Int) ≤ (iv M31 468 20)) → (∀ N110 : jM, N110 = (si M31 468 3 (w32 ((iv M31 468 3) + (1 : Int)))) → Shp N110 → (Call e mX11_items [vR 468, vI z30, vR 480, vI (w32 ((3 : Int) * (iv N110 468 20))), vI (3 : Int)] N110 (fun r115 M113 => r115 = none ∧ Shp M113 ∧ (∀ N117 : jM, N117 = (si M113 468 20 (w32 ((iv M113 468 20) + (1 : Int)))) → Shp N117 → (Run (e + 1) mX11_readIsland 214 [some (vR 468), some (vI l1), some (vI l2), some (vI z30)] [] N117 Q)))))))))) ∧ (¬ (l1 ≠ (0 : Int)) → (∀ N119 : jM, N119 = (si M31 468 3 (w32 ((iv M31 468 3) + (1 : Int)))) → Shp N119 → (Call e mX11_items [vR 468, vI z30, vR 479, vI (0 : Int), vI (4 : Int)] N119 (fun r124 M122 => r124 = none ∧ Shp M122 ∧ (Run (e + 1) mX11_readIsland 214 [some (vR 468), some (vI (1 : Int)), some (vI l2), some (vI z30)] [] M122 Q)))))))))))))) :
  Run (e + 1) mX11_readIsland 49 [some (vR 468), some (vI l1), some (vI l2), l3] [] M Q := by
  refine r_iload_n dX11_readIsland_49 rfl ?_
  refine r_if_eq dX11_readIsland_50 rfl (fun c28 => ?_) (fun c28 => ?_)
  · exact (h.1 c28)
  · refine r_aload_n dX11_readIsland_53 rfl ?_
    refine r_get0 dX11_readIsland_54 kF11_126 (sh_o hS kk468 (by decide)) ?_
    refine r_iconst dX11_readIsland_57 (by decide) ?_
    refine r_icmp_ne dX11_readIsland_58 rfl (fun c29 => ?_) (fun c29 => ?_)
    · exact ((h.2 c28).1 c29)
    · refine r_aload_n dX11_readIsland_61 rfl ?_
      refine r_invV_i dX11_readIsland_62 kM11_138 (by decide) (Nat.le_of_ble_eq_true rfl) rfl rfl (Nat.le_of_ble_eq_true rfl) (Nat.le_of_ble_eq_true rfl) (sh_o hS kk468 (by decide)) (Call.mono ((h.2 c28).2 c29) (Nat.le_refl _) ?_)
      rintro _ M31 ⟨z30, rfl, s34, h32⟩
      refine ⟨_, rfl, ?_⟩
      refine r_istore_n (ls2 := [some (vR 468), some (vI l1), some (vI l2), some (vI z30)]) dX11_readIsland_65 (Nat.le_of_ble_eq_true rfl) rfl ?_
      refine r_iload_n dX11_readIsland_66 rfl ?_
      refine r_bipush dX11_readIsland_67 (by decide) ?_
      refine r_icmp_ne dX11_readIsland_69 rfl (fun c35 => ?_) (fun c35 => ?_)
      · refine r_iload_n dX11_readIsland_102 rfl ?_
        refine r_bipush dX11_readIsland_103 (by decide) ?_
        refine r_icmp_ne dX11_readIsland_105 rfl (fun c36 => ?_) (fun c36 => ?_)
        · refine r_iload_n dX11_readIsland_156 rfl ?_
          refine r_bipush dX11_readIsland_157 (by decide) ?_
          refine r_icmp_ne dX11_readIsland_159 rfl (fun c37 => ?_) (fun c37 => ?_)
          · refine r_aload_n dX11_readIsland_210 rfl ?_
            refine r_invV_v dX11_readIsland_211 kM11_135 (by decide) (Nat.le_of_ble_eq_true rfl) rfl rfl (Nat.le_of_ble_eq_true rfl) (Nat.le_of_ble_eq_true rfl) (sh_o s34 kk468 (by decide)) (m_bad (by omega) s34 ⟨rfl, ?_⟩)
            have K127 : ∀ N38 : jM, N38 = (si M31 468 4 (if iv M31 468 4 = -1 then iv M31 468 3 else iv M31 468 4)) → Run (e + 1) mX11_readIsland 214 [some (vR 468), some (vI l1), some (vI l2), some (vI z30)] [] N38 Q := by
              intro N38 hN126
              have sN39 : Shp N38 := by rw [hN126]; exact s34
              exact ((((h32.1 c35).1 c36).1 c37) N38 hN126 sN39)
            exact K127 _ rfl
          · refine r_aload_n dX11_readIsland_162 rfl ?_
            refine r_get0 dX11_readIsland_163 kF11_251 (sh_o s34 kk468 (by decide)) ?_
            refine r_bipush dX11_readIsland_166 (by decide) ?_
            refine r_icmp_ge dX11_readIsland_168 rfl (fun c40 => ?_) (fun c40 => ?_)
            · refine r_aload_n dX11_readIsland_210 rfl ?_
              refine r_invV_v dX11_readIsland_211 kM11_135 (by decide) (Nat.le_of_ble_eq_true rfl) rfl rfl (Nat.le_of_ble_eq_true rfl) (Nat.le_of_ble_eq_true rfl) (sh_o s34 kk468 (by decide)) (m_bad (by omega) s34 ⟨rfl, ?_⟩)
              have K129 : ∀ N41 : jM, N41 = (si M31 468 4 (if iv M31 468 4 = -1 then iv M31 468 3 else iv M31 468 4)) → Run (e + 1) mX11_readIsland 214 [some (vR 468), some (vI l1), some (vI l2), some (vI z30)] [] N41 Q := by
                intro N41 hN128
                have sN42 : Shp N41 := by rw [hN128]; exact s34
                exact (((((h32.1 c35).1 c36).2 c37).1 c40) N41 hN128 sN42)
              exact K129 _ rfl
            · refine r_aload_n dX11_readIsland_171 rfl ?_
              refine r_dupR dX11_readIsland_172 ?_
              refine r_get0 dX11_readIsland_173 kF11_119 (sh_o s34 kk468 (by decide)) ?_
              refine r_iconst dX11_readIsland_176 (by decide) ?_
              refine r_iadd dX11_readIsland_177 ?_
              refine r_put0 dX11_readIsland_178 kF11_119 (sh_o s34 kk468 (by decide)) (Or.inl rfl) ?_
              have K131 : ∀ N43 : jM, N43 = (si M31 468 3 (w32 ((iv M31 468 3) + (1 : Int)))) → Run (e + 1) mX11_readIsland 181 [some (vR 468), some (vI l1), some (vI l2), some (vI z30)] [] N43 Q := by
                intro N43 hN130
                have sN44 : Shp N43 := by rw [hN130]; exact s34
                refine r_aload_n dX11_readIsland_181 rfl ?_
                refine r_iload_n dX11_readIsland_182 rfl ?_
                refine r_aload_n dX11_readIsland_183 rfl ?_
                refine r_getS (v := 481) dX11_readIsland_184 kF11_46 (sh_o sN44 kk468 (by decide)) (sh_f sN44 rr468_19 (by decide)) ?_
                refine r_iconst dX11_readIsland_187 (by decide) ?_
                refine r_aload_n dX11_readIsland_188 rfl ?_
                refine r_get0 dX11_readIsland_189 kF11_251 (sh_o sN44 kk468 (by decide)) ?_
                refine r_imul dX11_readIsland_192 ?_
                refine r_iconst dX11_readIsland_193 (by decide) ?_
                refine r_invV_v dX11_readIsland_194 kM11_257 (by decide) (Nat.le_of_ble_eq_true rfl) rfl rfl (Nat.le_of_ble_eq_true rfl) (Nat.le_of_ble_eq_true rfl) (sh_o sN44 kk468 (by decide)) (Call.mono (((((h32.1 c35).1 c36).2 c37).2 c40) N43 hN130 sN44) (Nat.le_refl _) ?_)
                rintro _ M46 ⟨rfl, s49, h47⟩
                refine ⟨rfl, ?_⟩
                refine r_aload_n dX11_readIsland_197 rfl ?_
                refine r_dupR dX11_readIsland_198 ?_
                refine r_get0 dX11_readIsland_199 kF11_251 (sh_o s49 kk468 (by decide)) ?_
                refine r_iconst dX11_readIsland_202 (by decide) ?_
                refine r_iadd dX11_readIsland_203 ?_
                refine r_put0 dX11_readIsland_204 kF11_251 (sh_o s49 kk468 (by decide)) (Or.inl rfl) ?_
                have K133 : ∀ N50 : jM, N50 = (si M46 468 21 (w32 ((iv M46 468 21) + (1 : Int)))) → Run (e + 1) mX11_readIsland 207 [some (vR 468), some (vI l1), some (vI l2), some (vI z30)] [] N50 Q := by
                  intro N50 hN132
                  have sN51 : Shp N50 := by rw [hN132]; exact s49
                  refine r_goto (tgt := 214) dX11_readIsland_207 rfl ?_
                  exact (h47 N50 hN132 sN51)
                exact K133 _ rfl
              exact K131 _ rfl
        · refine r_aload_n dX11_readIsland_108 rfl ?_
          refine r_get0 dX11_readIsland_109 kF11_248 (sh_o s34 kk468 (by decide)) ?_
          refine r_bipush dX11_readIsland_112 (by decide) ?_
          refine r_icmp_ge dX11_readIsland_114 rfl (fun c52 => ?_) (fun c52 => ?_)
          · refine r_iload_n dX11_readIsland_156 rfl ?_
            refine r_bipush dX11_readIsland_157 (by decide) ?_
            refine r_icmp_ne dX11_readIsland_159 rfl (fun c53 => ?_) (fun c53 => ?_)
            · refine r_aload_n dX11_readIsland_210 rfl ?_
              refine r_invV_v dX11_readIsland_211 kM11_135 (by decide) (Nat.le_of_ble_eq_true rfl) rfl rfl (Nat.le_of_ble_eq_true rfl) (Nat.le_of_ble_eq_true rfl) (sh_o s34 kk468 (by decide)) (m_bad (by omega) s34 ⟨rfl, ?_⟩)
              have K135 : ∀ N54 : jM, N54 = (si M31 468 4 (if iv M31 468 4 = -1 then iv M31 468 3 else iv M31 468 4)) → Run (e + 1) mX11_readIsland 214 [some (vR 468), some (vI l1), some (vI l2), some (vI z30)] [] N54 Q := by
                intro N54 hN134
                have sN55 : Shp N54 := by rw [hN134]; exact s34
                exact (((((h32.1 c35).2 c36).1 c52).1 c53) N54 hN134 sN55)
              exact K135 _ rfl
            · refine r_aload_n dX11_readIsland_162 rfl ?_
              refine r_get0 dX11_readIsland_163 kF11_251 (sh_o s34 kk468 (by decide)) ?_
              refine r_bipush dX11_readIsland_166 (by decide) ?_
              refine r_icmp_ge dX11_readIsland_168 rfl (fun c56 => ?_) (fun c56 => ?_)
              · refine r_aload_n dX11_readIsland_210 rfl ?_
                refine r_invV_v dX11_readIsland_211 kM11_135 (by decide) (Nat.le_of_ble_eq_true rfl) rfl rfl (Nat.le_of_ble_eq_true rfl) (Nat.le_of_ble_eq_true rfl) (sh_o s34 kk468 (by decide)) (m_bad (by omega) s34 ⟨rfl, ?_⟩)
                have K137 : ∀ N57 : jM, N57 = (si M31 468 4 (if iv M31 468 4 = -1 then iv M31 468 3 else iv M31 468 4)) → Run (e + 1) mX11_readIsland 214 [some (vR 468), some (vI l1), some (vI l2), some (vI z30)] [] N57 Q := by
                  intro N57 hN136
                  have sN58 : Shp N57 := by rw [hN136]; exact s34
                  exact ((((((h32.1 c35).2 c36).1 c52).2 c53).1 c56) N57 hN136 sN58)
                exact K137 _ rfl
              · refine r_aload_n dX11_readIsland_171 rfl ?_
                refine r_dupR dX11_readIsland_172 ?_
                refine r_get0 dX11_readIsland_173 kF11_119 (sh_o s34 kk468 (by decide)) ?_
                refine r_iconst dX11_readIsland_176 (by decide) ?_
                refine r_iadd dX11_readIsland_177 ?_
                refine r_put0 dX11_readIsland_178 kF11_119 (sh_o s34 kk468 (by decide)) (Or.inl rfl) ?_
                have K139 : ∀ N59 : jM, N59 = (si M31 468 3 (w32 ((iv M31 468 3) + (1 : Int)))) → Run (e + 1) mX11_readIsland 181 [some (vR 468), some (vI l1), some (vI l2), some (vI z30)] [] N59 Q := by
                  intro N59 hN138
                  have sN60 : Shp N59 := by rw [hN138]; exact s34
                  refine r_aload_n dX11_readIsland_181 rfl ?_
                  refine r_iload_n dX11_readIsland_182 rfl ?_
                  refine r_aload_n dX11_readIsland_183 rfl ?_
                  refine r_getS (v := 481) dX11_readIsland_184 kF11_46 (sh_o sN60 kk468 (by decide)) (sh_f sN60 rr468_19 (by decide)) ?_
                  refine r_iconst dX11_readIsland_187 (by decide) ?_
                  refine r_aload_n dX11_readIsland_188 rfl ?_
                  refine r_get0 dX11_readIsland_189 kF11_251 (sh_o sN60 kk468 (by decide)) ?_
                  refine r_imul dX11_readIsland_192 ?_
                  refine r_iconst dX11_readIsland_193 (by decide) ?_
                  refine r_invV_v dX11_readIsland_194 kM11_257 (by decide) (Nat.le_of_ble_eq_true rfl) rfl rfl (Nat.le_of_ble_eq_true rfl) (Nat.le_of_ble_eq_true rfl) (sh_o sN60 kk468 (by decide)) (Call.mono ((((((h32.1 c35).2 c36).1 c52).2 c53).2 c56) N59 hN138 sN60) (Nat.le_refl _) ?_)
                  rintro _ M62 ⟨rfl, s65, h63⟩
                  refine ⟨rfl, ?_⟩
                  refine r_aload_n dX11_readIsland_197 rfl ?_
                  refine r_dupR dX11_readIsland_198 ?_
                  refine r_get0 dX11_readIsland_199 kF11_251 (sh_o s65 kk468 (by decide)) ?_
                  refine r_iconst dX11_readIsland_202 (by decide) ?_
                  refine r_iadd dX11_readIsland_203 ?_
                  refine r_put0 dX11_readIsland_204 kF11_251 (sh_o s65 kk468 (by decide)) (Or.inl rfl) ?_
                  have K141 : ∀ N66 : jM, N66 = (si M62 468 21 (w32 ((iv M62 468 21) + (1 : Int)))) → Run (e + 1) mX11_readIsland 207 [some (vR 468), some (vI l1), some (vI l2), some (vI z30)] [] N66 Q := by
                    intro N66 hN140
                    have sN67 : Shp N66 := by rw [hN140]; exact s65
                    refine r_goto (tgt := 214) dX11_readIsland_207 rfl ?_
                    exact (h63 N66 hN140 sN67)
                  exact K141 _ rfl
                exact K139 _ rfl
          · refine r_aload_n dX11_readIsland_117 rfl ?_
            refine r_dupR dX11_readIsland_118 ?_
            refine r_get0 dX11_readIsland_119 kF11_119 (sh_o s34 kk468 (by decide)) ?_
            refine r_iconst dX11_readIsland_122 (by decide) ?_
            refine r_iadd dX11_readIsland_123 ?_
            refine r_put0 dX11_readIsland_124 kF11_119 (sh_o s34 kk468 (by decide)) (Or.inl rfl) ?_
            have K143 : ∀ N68 : jM, N68 = (si M31 468 3 (w32 ((iv M31 468 3) + (1 : Int)))) → Run (e + 1) mX11_readIsland 127 [some (vR 468), some (vI l1), some (vI l2), some (vI z30)] [] N68 Q := by
              intro N68 hN142
              have sN69 : Shp N68 := by rw [hN142]; exact s34
              refine r_aload_n dX11_readIsland_127 rfl ?_
              refine r_iload_n dX11_readIsland_128 rfl ?_
              refine r_aload_n dX11_readIsland_129 rfl ?_
              refine r_getS (v := 480) dX11_readIsland_130 kF11_43 (sh_o sN69 kk468 (by decide)) (sh_f sN69 rr468_18 (by decide)) ?_
              refine r_iconst dX11_readIsland_133 (by decide) ?_
              refine r_aload_n dX11_readIsland_134 rfl ?_
              refine r_get0 dX11_readIsland_135 kF11_248 (sh_o sN69 kk468 (by decide)) ?_
              refine r_imul dX11_readIsland_138 ?_
              refine r_iconst dX11_readIsland_139 (by decide) ?_
              refine r_invV_v dX11_readIsland_140 kM11_257 (by decide) (Nat.le_of_ble_eq_true rfl) rfl rfl (Nat.le_of_ble_eq_true rfl) (Nat.le_of_ble_eq_true rfl) (sh_o sN69 kk468 (by decide)) (Call.mono ((((h32.1 c35).2 c36).2 c52) N68 hN142 sN69) (Nat.le_refl _) ?_)
              rintro _ M71 ⟨rfl, s74, h72⟩
              refine ⟨rfl, ?_⟩
              refine r_aload_n dX11_readIsland_143 rfl ?_
              refine r_dupR dX11_readIsland_144 ?_
              refine r_get0 dX11_readIsland_145 kF11_248 (sh_o s74 kk468 (by decide)) ?_
              refine r_iconst dX11_readIsland_148 (by decide) ?_
              refine r_iadd dX11_readIsland_149 ?_
              refine r_put0 dX11_readIsland_150 kF11_248 (sh_o s74 kk468 (by decide)) (Or.inl rfl) ?_
              have K145 : ∀ N75 : jM, N75 = (si M71 468 20 (w32 ((iv M71 468 20) + (1 : Int)))) → Run (e + 1) mX11_readIsland 153 [some (vR 468), some (vI l1), some (vI l2), some (vI z30)] [] N75 Q := by
                intro N75 hN144
                have sN76 : Shp N75 := by rw [hN144]; exact s74
                refine r_goto (tgt := 214) dX11_readIsland_153 rfl ?_
                exact (h72 N75 hN144 sN76)
              exact K145 _ rfl
            exact K143 _ rfl
      · refine r_iload_n dX11_readIsland_72 rfl ?_
        refine r_if_ne dX11_readIsland_73 rfl (fun c77 => ?_) (fun c77 => ?_)
        · refine r_iload_n dX11_readIsland_102 rfl ?_
          refine r_bipush dX11_readIsland_103 (by decide) ?_
          refine r_icmp_ne dX11_readIsland_105 rfl (fun c78 => ?_) (fun c78 => ?_)
          · refine r_iload_n dX11_readIsland_156 rfl ?_
            refine r_bipush dX11_readIsland_157 (by decide) ?_
            refine r_icmp_ne dX11_readIsland_159 rfl (fun c79 => ?_) (fun c79 => ?_)
            · refine r_aload_n dX11_readIsland_210 rfl ?_
              refine r_invV_v dX11_readIsland_211 kM11_135 (by decide) (Nat.le_of_ble_eq_true rfl) rfl rfl (Nat.le_of_ble_eq_true rfl) (Nat.le_of_ble_eq_true rfl) (sh_o s34 kk468 (by decide)) (m_bad (by omega) s34 ⟨rfl, ?_⟩)
              have K147 : ∀ N80 : jM, N80 = (si M31 468 4 (if iv M31 468 4 = -1 then iv M31 468 3 else iv M31 468 4)) → Run (e + 1) mX11_readIsland 214 [some (vR 468), some (vI l1), some (vI l2), some (vI z30)] [] N80 Q := by
                intro N80 hN146
                have sN81 : Shp N80 := by rw [hN146]; exact s34
                exact (((((h32.2 c35).1 c77).1 c78).1 c79) N80 hN146 sN81)
              exact K147 _ rfl
            · refine r_aload_n dX11_readIsland_162 rfl ?_
              refine r_get0 dX11_readIsland_163 kF11_251 (sh_o s34 kk468 (by decide)) ?_
              refine r_bipush dX11_readIsland_166 (by decide) ?_
              refine r_icmp_ge dX11_readIsland_168 rfl (fun c82 => ?_) (fun c82 => ?_)
              · refine r_aload_n dX11_readIsland_210 rfl ?_
                refine r_invV_v dX11_readIsland_211 kM11_135 (by decide) (Nat.le_of_ble_eq_true rfl) rfl rfl (Nat.le_of_ble_eq_true rfl) (Nat.le_of_ble_eq_true rfl) (sh_o s34 kk468 (by decide)) (m_bad (by omega) s34 ⟨rfl, ?_⟩)
                have K149 : ∀ N83 : jM, N83 = (si M31 468 4 (if iv M31 468 4 = -1 then iv M31 468 3 else iv M31 468 4)) → Run (e + 1) mX11_readIsland 214 [some (vR 468), some (vI l1), some (vI l2), some (vI z30)] [] N83 Q := by
                  intro N83 hN148
                  have sN84 : Shp N83 := by rw [hN148]; exact s34
                  exact ((((((h32.2 c35).1 c77).1 c78).2 c79).1 c82) N83 hN148 sN84)
                exact K149 _ rfl
              · refine r_aload_n dX11_readIsland_171 rfl ?_
                refine r_dupR dX11_readIsland_172 ?_
                refine r_get0 dX11_readIsland_173 kF11_119 (sh_o s34 kk468 (by decide)) ?_
                refine r_iconst dX11_readIsland_176 (by decide) ?_
                refine r_iadd dX11_readIsland_177 ?_
                refine r_put0 dX11_readIsland_178 kF11_119 (sh_o s34 kk468 (by decide)) (Or.inl rfl) ?_
                have K151 : ∀ N85 : jM, N85 = (si M31 468 3 (w32 ((iv M31 468 3) + (1 : Int)))) → Run (e + 1) mX11_readIsland 181 [some (vR 468), some (vI l1), some (vI l2), some (vI z30)] [] N85 Q := by
                  intro N85 hN150
                  have sN86 : Shp N85 := by rw [hN150]; exact s34
                  refine r_aload_n dX11_readIsland_181 rfl ?_
                  refine r_iload_n dX11_readIsland_182 rfl ?_
                  refine r_aload_n dX11_readIsland_183 rfl ?_
                  refine r_getS (v := 481) dX11_readIsland_184 kF11_46 (sh_o sN86 kk468 (by decide)) (sh_f sN86 rr468_19 (by decide)) ?_
                  refine r_iconst dX11_readIsland_187 (by decide) ?_
                  refine r_aload_n dX11_readIsland_188 rfl ?_
                  refine r_get0 dX11_readIsland_189 kF11_251 (sh_o sN86 kk468 (by decide)) ?_
                  refine r_imul dX11_readIsland_192 ?_
                  refine r_iconst dX11_readIsland_193 (by decide) ?_
                  refine r_invV_v dX11_readIsland_194 kM11_257 (by decide) (Nat.le_of_ble_eq_true rfl) rfl rfl (Nat.le_of_ble_eq_true rfl) (Nat.le_of_ble_eq_true rfl) (sh_o sN86 kk468 (by decide)) (Call.mono ((((((h32.2 c35).1 c77).1 c78).2 c79).2 c82) N85 hN150 sN86) (Nat.le_refl _) ?_)
                  rintro _ M88 ⟨rfl, s91, h89⟩
                  refine ⟨rfl, ?_⟩
                  refine r_aload_n dX11_readIsland_197 rfl ?_
                  refine r_dupR dX11_readIsland_198 ?_
                  refine r_get0 dX11_readIsland_199 kF11_251 (sh_o s91 kk468 (by decide)) ?_
                  refine r_iconst dX11_readIsland_202 (by decide) ?_
                  refine r_iadd dX11_readIsland_203 ?_
                  refine r_put0 dX11_readIsland_204 kF11_251 (sh_o s91 kk468 (by decide)) (Or.inl rfl) ?_
                  have K153 : ∀ N92 : jM, N92 = (si M88 468 21 (w32 ((iv M88 468 21) + (1 : Int)))) → Run (e + 1) mX11_readIsland 207 [some (vR 468), some (vI l1), some (vI l2), some (vI z30)] [] N92 Q := by
                    intro N92 hN152
                    have sN93 : Shp N92 := by rw [hN152]; exact s91
                    refine r_goto (tgt := 214) dX11_readIsland_207 rfl ?_
                    exact (h89 N92 hN152 sN93)
                  exact K153 _ rfl
                exact K151 _ rfl
          · refine r_aload_n dX11_readIsland_108 rfl ?_
            refine r_get0 dX11_readIsland_109 kF11_248 (sh_o s34 kk468 (by decide)) ?_
            refine r_bipush dX11_readIsland_112 (by decide) ?_
            refine r_icmp_ge dX11_readIsland_114 rfl (fun c94 => ?_) (fun c94 => ?_)
            · refine r_iload_n dX11_readIsland_156 rfl ?_
              refine r_bipush dX11_readIsland_157 (by decide) ?_
              refine r_icmp_ne dX11_readIsland_159 rfl (fun c95 => ?_) (fun c95 => ?_)
              · refine r_aload_n dX11_readIsland_210 rfl ?_
                refine r_invV_v dX11_readIsland_211 kM11_135 (by decide) (Nat.le_of_ble_eq_true rfl) rfl rfl (Nat.le_of_ble_eq_true rfl) (Nat.le_of_ble_eq_true rfl) (sh_o s34 kk468 (by decide)) (m_bad (by omega) s34 ⟨rfl, ?_⟩)
                have K155 : ∀ N96 : jM, N96 = (si M31 468 4 (if iv M31 468 4 = -1 then iv M31 468 3 else iv M31 468 4)) → Run (e + 1) mX11_readIsland 214 [some (vR 468), some (vI l1), some (vI l2), some (vI z30)] [] N96 Q := by
                  intro N96 hN154
                  have sN97 : Shp N96 := by rw [hN154]; exact s34
                  exact ((((((h32.2 c35).1 c77).2 c78).1 c94).1 c95) N96 hN154 sN97)
                exact K155 _ rfl
              · refine r_aload_n dX11_readIsland_162 rfl ?_
                refine r_get0 dX11_readIsland_163 kF11_251 (sh_o s34 kk468 (by decide)) ?_
                refine r_bipush dX11_readIsland_166 (by decide) ?_
                refine r_icmp_ge dX11_readIsland_168 rfl (fun c98 => ?_) (fun c98 => ?_)
                · refine r_aload_n dX11_readIsland_210 rfl ?_
                  refine r_invV_v dX11_readIsland_211 kM11_135 (by decide) (Nat.le_of_ble_eq_true rfl) rfl rfl (Nat.le_of_ble_eq_true rfl) (Nat.le_of_ble_eq_true rfl) (sh_o s34 kk468 (by decide)) (m_bad (by omega) s34 ⟨rfl, ?_⟩)
                  have K157 : ∀ N99 : jM, N99 = (si M31 468 4 (if iv M31 468 4 = -1 then iv M31 468 3 else iv M31 468 4)) → Run (e + 1) mX11_readIsland 214 [some (vR 468), some (vI l1), some (vI l2), some (vI z30)] [] N99 Q := by
                    intro N99 hN156
                    have sN100 : Shp N99 := by rw [hN156]; exact s34
                    exact (((((((h32.2 c35).1 c77).2 c78).1 c94).2 c95).1 c98) N99 hN156 sN100)
                  exact K157 _ rfl
                · refine r_aload_n dX11_readIsland_171 rfl ?_
                  refine r_dupR dX11_readIsland_172 ?_
                  refine r_get0 dX11_readIsland_173 kF11_119 (sh_o s34 kk468 (by decide)) ?_
                  refine r_iconst dX11_readIsland_176 (by decide) ?_
                  refine r_iadd dX11_readIsland_177 ?_
                  refine r_put0 dX11_readIsland_178 kF11_119 (sh_o s34 kk468 (by decide)) (Or.inl rfl) ?_
                  have K159 : ∀ N101 : jM, N101 = (si M31 468 3 (w32 ((iv M31 468 3) + (1 : Int)))) → Run (e + 1) mX11_readIsland 181 [some (vR 468), some (vI l1), some (vI l2), some (vI z30)] [] N101 Q := by
                    intro N101 hN158
                    have sN102 : Shp N101 := by rw [hN158]; exact s34
                    refine r_aload_n dX11_readIsland_181 rfl ?_
                    refine r_iload_n dX11_readIsland_182 rfl ?_
                    refine r_aload_n dX11_readIsland_183 rfl ?_
                    refine r_getS (v := 481) dX11_readIsland_184 kF11_46 (sh_o sN102 kk468 (by decide)) (sh_f sN102 rr468_19 (by decide)) ?_
                    refine r_iconst dX11_readIsland_187 (by decide) ?_
                    refine r_aload_n dX11_readIsland_188 rfl ?_
                    refine r_get0 dX11_readIsland_189 kF11_251 (sh_o sN102 kk468 (by decide)) ?_
                    refine r_imul dX11_readIsland_192 ?_
                    refine r_iconst dX11_readIsland_193 (by decide) ?_
                    refine r_invV_v dX11_readIsland_194 kM11_257 (by decide) (Nat.le_of_ble_eq_true rfl) rfl rfl (Nat.le_of_ble_eq_true rfl) (Nat.le_of_ble_eq_true rfl) (sh_o sN102 kk468 (by decide)) (Call.mono (((((((h32.2 c35).1 c77).2 c78).1 c94).2 c95).2 c98) N101 hN158 sN102) (Nat.le_refl _) ?_)
                    rintro _ M104 ⟨rfl, s107, h105⟩
                    refine ⟨rfl, ?_⟩
                    refine r_aload_n dX11_readIsland_197 rfl ?_
                    refine r_dupR dX11_readIsland_198 ?_
                    refine r_get0 dX11_readIsland_199 kF11_251 (sh_o s107 kk468 (by decide)) ?_
                    refine r_iconst dX11_readIsland_202 (by decide) ?_
                    refine r_iadd dX11_readIsland_203 ?_
                    refine r_put0 dX11_readIsland_204 kF11_251 (sh_o s107 kk468 (by decide)) (Or.inl rfl) ?_
                    have K161 : ∀ N108 : jM, N108 = (si M104 468 21 (w32 ((iv M104 468 21) + (1 : Int)))) → Run (e + 1) mX11_readIsland 207 [some (vR 468), some (vI l1), some (vI l2), some (vI z30)] [] N108 Q := by
                      intro N108 hN160
                      have sN109 : Shp N108 := by rw [hN160]; exact s107
                      refine r_goto (tgt := 214) dX11_readIsland_207 rfl ?_
                      exact (h105 N108 hN160 sN109)
                    exact K161 _ rfl
                  exact K159 _ rfl
            · refine r_aload_n dX11_readIsland_117 rfl ?_
              refine r_dupR dX11_readIsland_118 ?_
              refine r_get0 dX11_readIsland_119 kF11_119 (sh_o s34 kk468 (by decide)) ?_
              refine r_iconst dX11_readIsland_122 (by decide) ?_
              refine r_iadd dX11_readIsland_123 ?_
              refine r_put0 dX11_readIsland_124 kF11_119 (sh_o s34 kk468 (by decide)) (Or.inl rfl) ?_
              have K163 : ∀ N110 : jM, N110 = (si M31 468 3 (w32 ((iv M31 468 3) + (1 : Int)))) → Run (e + 1) mX11_readIsland 127 [some (vR 468), some (vI l1), some (vI l2), some (vI z30)] [] N110 Q := by
                intro N110 hN162
                have sN111 : Shp N110 := by rw [hN162]; exact s34
                refine r_aload_n dX11_readIsland_127 rfl ?_
                refine r_iload_n dX11_readIsland_128 rfl ?_
                refine r_aload_n dX11_readIsland_129 rfl ?_
                refine r_getS (v := 480) dX11_readIsland_130 kF11_43 (sh_o sN111 kk468 (by decide)) (sh_f sN111 rr468_18 (by decide)) ?_
                refine r_iconst dX11_readIsland_133 (by decide) ?_
                refine r_aload_n dX11_readIsland_134 rfl ?_
                refine r_get0 dX11_readIsland_135 kF11_248 (sh_o sN111 kk468 (by decide)) ?_
                refine r_imul dX11_readIsland_138 ?_
                refine r_iconst dX11_readIsland_139 (by decide) ?_
                refine r_invV_v dX11_readIsland_140 kM11_257 (by decide) (Nat.le_of_ble_eq_true rfl) rfl rfl (Nat.le_of_ble_eq_true rfl) (Nat.le_of_ble_eq_true rfl) (sh_o sN111 kk468 (by decide)) (Call.mono (((((h32.2 c35).1 c77).2 c78).2 c94) N110 hN162 sN111) (Nat.le_refl _) ?_)
                rintro _ M113 ⟨rfl, s116, h114⟩
                refine ⟨rfl, ?_⟩
                refine r_aload_n dX11_readIsland_143 rfl ?_
                refine r_dupR dX11_readIsland_144 ?_
                refine r_get0 dX11_readIsland_145 kF11_248 (sh_o s116 kk468 (by decide)) ?_
                refine r_iconst dX11_readIsland_148 (by decide) ?_
                refine r_iadd dX11_readIsland_149 ?_
                refine r_put0 dX11_readIsland_150 kF11_248 (sh_o s116 kk468 (by decide)) (Or.inl rfl) ?_
                have K165 : ∀ N117 : jM, N117 = (si M113 468 20 (w32 ((iv M113 468 20) + (1 : Int)))) → Run (e + 1) mX11_readIsland 153 [some (vR 468), some (vI l1), some (vI l2), some (vI z30)] [] N117 Q := by
                  intro N117 hN164
                  have sN118 : Shp N117 := by rw [hN164]; exact s116
                  refine r_goto (tgt := 214) dX11_readIsland_153 rfl ?_
                  exact (h114 N117 hN164 sN118)
                exact K165 _ rfl
              exact K163 _ rfl
        · refine r_iconst dX11_readIsland_76 (by decide) ?_
          refine r_istore_n (ls2 := [some (vR 468), some (vI (1 : Int)), some (vI l2), some (vI z30)]) dX11_readIsland_77 (Nat.le_of_ble_eq_true rfl) rfl ?_
          refine r_aload_n dX11_readIsland_78 rfl ?_
          refine r_dupR dX11_readIsland_79 ?_
          refine r_get0 dX11_readIsland_80 kF11_119 (sh_o s34 kk468 (by decide)) ?_
          refine r_iconst dX11_readIsland_83 (by decide) ?_
          refine r_iadd dX11_readIsland_84 ?_
          refine r_put0 dX11_readIsland_85 kF11_119 (sh_o s34 kk468 (by decide)) (Or.inl rfl) ?_
          have K167 : ∀ N119 : jM, N119 = (si M31 468 3 (w32 ((iv M31 468 3) + (1 : Int)))) → Run (e + 1) mX11_readIsland 88 [some (vR 468), some (vI (1 : Int)), some (vI l2), some (vI z30)] [] N119 Q := by
            intro N119 hN166
            have sN120 : Shp N119 := by rw [hN166]; exact s34
            refine r_aload_n dX11_readIsland_88 rfl ?_
            refine r_iload_n dX11_readIsland_89 rfl ?_
            refine r_aload_n dX11_readIsland_90 rfl ?_
            refine r_getS (v := 479) dX11_readIsland_91 kF11_40 (sh_o sN120 kk468 (by decide)) (sh_f sN120 rr468_17 (by decide)) ?_
            refine r_iconst dX11_readIsland_94 (by decide) ?_
            refine r_iconst dX11_readIsland_95 (by decide) ?_
            refine r_invV_v dX11_readIsland_96 kM11_257 (by decide) (Nat.le_of_ble_eq_true rfl) rfl rfl (Nat.le_of_ble_eq_true rfl) (Nat.le_of_ble_eq_true rfl) (sh_o sN120 kk468 (by decide)) (Call.mono (((h32.2 c35).2 c77) N119 hN166 sN120) (Nat.le_refl _) ?_)
            rintro _ M122 ⟨rfl, s125, h123⟩
            refine ⟨rfl, ?_⟩
            refine r_goto (tgt := 214) dX11_readIsland_99 rfl ?_
            exact h123
          exact K167 _ rfl
theorem vn_readIsland_214 {e : Nat} {M : jM} {Q : Option jV → jM → Prop} {l1 : Int} {l2 : Int} {l3 : Int}  (he : 6 ≤ e) (hS : Shp M)
  (h : (((iv M 468 4) ≠ (-1 : Int)) → (Run (e + 1) mX11_readIsland 237 [some (vR 468), some (vI l1), some (vI (0 : Int)), some (vI l3)] [] M Q)) ∧ (¬ ((iv M 468 4) ≠ (-1 : Int)) → (Call e mX11_look [vR 468] M (fun r172 M170 => ∃ z169 : Int, r172 = some (vI z169) ∧ Shp M170 ∧ (Run (e + 1) mX11_readIsland 237 [some (vR 468), some (vI l1), some (vI (if z169 ≠ (59 : Int) then (0 : Int) else (1 : Int))), some (vI l3)] [] M170 Q))))) :
  Run (e + 1) mX11_readIsland 214 [some (vR 468), some (vI l1), some (vI l2), some (vI l3)] [] M Q := by
  refine r_aload_n dX11_readIsland_214 rfl ?_
  refine r_get0 dX11_readIsland_215 kF11_126 (sh_o hS kk468 (by decide)) ?_
  refine r_iconst dX11_readIsland_218 (by decide) ?_
  refine r_icmp_ne dX11_readIsland_219 rfl (fun c168 => ?_) (fun c168 => ?_)
  · refine r_iconst dX11_readIsland_235 (by decide) ?_
    refine r_istore_n (ls2 := [some (vR 468), some (vI l1), some (vI (0 : Int)), some (vI l3)]) dX11_readIsland_236 (Nat.le_of_ble_eq_true rfl) rfl ?_
    exact (h.1 c168)
  · refine r_aload_n dX11_readIsland_222 rfl ?_
    refine r_invV_i dX11_readIsland_223 kM11_138 (by decide) (Nat.le_of_ble_eq_true rfl) rfl rfl (Nat.le_of_ble_eq_true rfl) (Nat.le_of_ble_eq_true rfl) (sh_o hS kk468 (by decide)) (Call.mono (h.2 c168) (Nat.le_refl _) ?_)
    rintro _ M170 ⟨z169, rfl, s173, h171⟩
    refine ⟨_, rfl, ?_⟩
    refine r_bipush dX11_readIsland_226 (by decide) ?_
    have K174 : Run (e + 1) mX11_readIsland 236 [some (vR 468), some (vI l1), some (vI l2), some (vI l3)] [vI (if z169 ≠ (59 : Int) then (0 : Int) else (1 : Int))] M170 Q := by
      refine r_istore_n (ls2 := [some (vR 468), some (vI l1), some (vI (if z169 ≠ (59 : Int) then (0 : Int) else (1 : Int))), some (vI l3)]) dX11_readIsland_236 (Nat.le_of_ble_eq_true rfl) rfl ?_
      exact h171
    refine r_icmp_ne dX11_readIsland_228 rfl (fun q175 => ?_) (fun q175 => ?_)
    · rw [if_pos q175] at K174
      refine r_iconst dX11_readIsland_235 (by decide) ?_
      exact K174
    · rw [if_neg q175] at K174
      refine r_iconst dX11_readIsland_231 (by decide) ?_
      refine r_goto (tgt := 236) dX11_readIsland_232 rfl ?_
      exact K174
theorem vn_readIsland_237 {e : Nat} {M : jM} {Q : Option jV → jM → Prop} {l1 : Int} {l2 : Int} {l3 : Int}  (he : 6 ≤ e) (hS : Shp M)
  (h : ∀ N177 : jM, N177 = (si M 468 3 (w32 ((iv M 468 3) + (if l2 = (0 : Int) then (0 : Int) else (1 : Int))))) → Shp N177 → (Run (e + 1) mX11_readIsland 49 [some (vR 468), some (vI l1), some (vI l2), some (vI l3)] [] N177 Q)) :
  Run (e + 1) mX11_readIsland 237 [some (vR 468), some (vI l1), some (vI l2), some (vI l3)] [] M Q := by
  refine r_aload_n dX11_readIsland_237 rfl ?_
  refine r_dupR dX11_readIsland_238 ?_
  refine r_get0 dX11_readIsland_239 kF11_119 (sh_o hS kk468 (by decide)) ?_
  refine r_iload_n dX11_readIsland_242 rfl ?_
  have K179 : Run (e + 1) mX11_readIsland 251 [some (vR 468), some (vI l1), some (vI l2), some (vI l3)] [vI (if l2 = (0 : Int) then (0 : Int) else (1 : Int)), vI (iv M 468 3), vR 468] M Q := by
    refine r_iadd dX11_readIsland_251 ?_
    refine r_put0 dX11_readIsland_252 kF11_119 (sh_o hS kk468 (by decide)) (Or.inl rfl) ?_
    have K181 : ∀ N177 : jM, N177 = (si M 468 3 (w32 ((iv M 468 3) + (if l2 = (0 : Int) then (0 : Int) else (1 : Int))))) → Run (e + 1) mX11_readIsland 255 [some (vR 468), some (vI l1), some (vI l2), some (vI l3)] [] N177 Q := by
      intro N177 hN180
      have sN178 : Shp N177 := by rw [hN180]; exact hS
      refine r_goto (tgt := 49) dX11_readIsland_255 rfl ?_
      exact (h N177 hN180 sN178)
    exact K181 _ rfl
  refine r_if_eq dX11_readIsland_243 rfl (fun q182 => ?_) (fun q182 => ?_)
  · rw [if_pos q182] at K179
    refine r_iconst dX11_readIsland_250 (by decide) ?_
    exact K179
  · rw [if_neg q182] at K179
    refine r_iconst dX11_readIsland_246 (by decide) ?_
    refine r_goto (tgt := 251) dX11_readIsland_247 rfl ?_
    exact K179
theorem vn_readIsland_258 {e : Nat} {M : jM} {Q : Option jV → jM → Prop} {l1 : Int} {l2 : Int} {l3 : Option jV}  (he : 6 ≤ e) (hS : Shp M)
  (h : (((iv M 468 4) ≠ (-1 : Int)) → (Q (some (vI (iv M 468 4))) M)) ∧ (¬ ((iv M 468 4) ≠ (-1 : Int)) → (Call e mX11_look [vR 468] M (fun r188 M186 => ∃ z185 : Int, r188 = some (vI z185) ∧ Shp M186 ∧ (((z185 ≠ (-1 : Int)) → (∀ N191 : jM, N191 = (si M186 468 4 (if iv M186 468 4 = -1 then iv M186 468 3 else iv M186 468 4)) → Shp N191 → (Q (some (vI (iv N191 468 4))) N191))) ∧ (¬ (z185 ≠ (-1 : Int)) → (Call e mX11_isWhole [vR 468] M186 (fun r196 M194 => ∃ z193 : Int, r196 = some (vI z193) ∧ Shp M194 ∧ (((z193 ≠ (0 : Int)) → (Q (some (vI (iv M194 468 4))) M194)) ∧ (¬ (z193 ≠ (0 : Int)) → (∀ N199 : jM, N199 = (si M194 468 4 (if iv M194 468 4 = -1 then iv M194 468 3 else iv M194 468 4)) → Shp N199 → (Q (some (vI (iv N199 468 4))) N199)))))))))))) :
  Run (e + 1) mX11_readIsland 258 [some (vR 468), some (vI l1), some (vI l2), l3] [] M Q := by
  refine r_aload_n dX11_readIsland_258 rfl ?_
  refine r_get0 dX11_readIsland_259 kF11_126 (sh_o hS kk468 (by decide)) ?_
  refine r_iconst dX11_readIsland_262 (by decide) ?_
  refine r_icmp_ne dX11_readIsland_263 rfl (fun c184 => ?_) (fun c184 => ?_)
  · refine r_aload_n dX11_readIsland_285 rfl ?_
    refine r_get0 dX11_readIsland_286 kF11_126 (sh_o hS kk468 (by decide)) ?_
    exact r_iret dX11_readIsland_289 rfl (h.1 c184)
  · refine r_aload_n dX11_readIsland_266 rfl ?_
    refine r_invV_i dX11_readIsland_267 kM11_138 (by decide) (Nat.le_of_ble_eq_true rfl) rfl rfl (Nat.le_of_ble_eq_true rfl) (Nat.le_of_ble_eq_true rfl) (sh_o hS kk468 (by decide)) (Call.mono (h.2 c184) (Nat.le_refl _) ?_)
    rintro _ M186 ⟨z185, rfl, s189, h187⟩
    refine ⟨_, rfl, ?_⟩
    refine r_iconst dX11_readIsland_270 (by decide) ?_
    refine r_icmp_ne dX11_readIsland_271 rfl (fun c190 => ?_) (fun c190 => ?_)
    · refine r_aload_n dX11_readIsland_281 rfl ?_
      refine r_invV_v dX11_readIsland_282 kM11_135 (by decide) (Nat.le_of_ble_eq_true rfl) rfl rfl (Nat.le_of_ble_eq_true rfl) (Nat.le_of_ble_eq_true rfl) (sh_o s189 kk468 (by decide)) (m_bad (by omega) s189 ⟨rfl, ?_⟩)
      have K202 : ∀ N191 : jM, N191 = (si M186 468 4 (if iv M186 468 4 = -1 then iv M186 468 3 else iv M186 468 4)) → Run (e + 1) mX11_readIsland 285 [some (vR 468), some (vI l1), some (vI l2), l3] [] N191 Q := by
        intro N191 hN201
        have sN192 : Shp N191 := by rw [hN201]; exact s189
        refine r_aload_n dX11_readIsland_285 rfl ?_
        refine r_get0 dX11_readIsland_286 kF11_126 (sh_o sN192 kk468 (by decide)) ?_
        exact r_iret dX11_readIsland_289 rfl ((h187.1 c190) N191 hN201 sN192)
      exact K202 _ rfl
    · refine r_aload_n dX11_readIsland_274 rfl ?_
      refine r_invV_i dX11_readIsland_275 kM11_261 (by decide) (Nat.le_of_ble_eq_true rfl) rfl rfl (Nat.le_of_ble_eq_true rfl) (Nat.le_of_ble_eq_true rfl) (sh_o s189 kk468 (by decide)) (Call.mono (h187.2 c190) (Nat.le_refl _) ?_)
      rintro _ M194 ⟨z193, rfl, s197, h195⟩
      refine ⟨_, rfl, ?_⟩
      refine r_if_ne dX11_readIsland_278 rfl (fun c198 => ?_) (fun c198 => ?_)
      · refine r_aload_n dX11_readIsland_285 rfl ?_
        refine r_get0 dX11_readIsland_286 kF11_126 (sh_o s197 kk468 (by decide)) ?_
        exact r_iret dX11_readIsland_289 rfl (h195.1 c198)
      · refine r_aload_n dX11_readIsland_281 rfl ?_
        refine r_invV_v dX11_readIsland_282 kM11_135 (by decide) (Nat.le_of_ble_eq_true rfl) rfl rfl (Nat.le_of_ble_eq_true rfl) (Nat.le_of_ble_eq_true rfl) (sh_o s197 kk468 (by decide)) (m_bad (by omega) s197 ⟨rfl, ?_⟩)
        have K204 : ∀ N199 : jM, N199 = (si M194 468 4 (if iv M194 468 4 = -1 then iv M194 468 3 else iv M194 468 4)) → Run (e + 1) mX11_readIsland 285 [some (vR 468), some (vI l1), some (vI l2), l3] [] N199 Q := by
          intro N199 hN203
          have sN200 : Shp N199 := by rw [hN203]; exact s197
          refine r_aload_n dX11_readIsland_285 rfl ?_
          refine r_get0 dX11_readIsland_286 kF11_126 (sh_o sN200 kk468 (by decide)) ?_
          exact r_iret dX11_readIsland_289 rfl ((h195.2 c198) N199 hN203 sN200)
        exact K204 _ rfl
theorem vn_fault {e : Nat} {M : jM} {Q : Option jV → jM → Prop} {st : Int} (he : 6 ≤ e) (hS : Shp M)
  (h : ((st ≠ (0 : Int)) → (((st ≠ (1 : Int)) → (Q (some (vI (-2 : Int))) M)) ∧ (¬ (st ≠ (1 : Int)) → (Call e mX11_readLaw [vR 468, vI (4 : Int)] M (fun r6 M4 => ∃ z3 : Int, r6 = some (vI z3) ∧ Shp M4 ∧ (Q (some (vI z3)) M4)))))) ∧ (¬ (st ≠ (0 : Int)) → (Call e mX11_readIsland [vR 468] M (fun r11 M9 => ∃ z8 : Int, r11 = some (vI z8) ∧ Shp M9 ∧ (Q (some (vI z8)) M9))))) :
  Call (e + 1) mX11_fault [vR 468, vI st] M Q := by
  show Run (e + 1) mX11_fault 0 [some (vR 468), some (vI st)] [] M Q
  refine r_iload_n dX11_fault_0 rfl ?_
  refine r_if_ne dX11_fault_1 rfl (fun c1 => ?_) (fun c1 => ?_)
  · refine r_iload_n dX11_fault_11 rfl ?_
    refine r_iconst dX11_fault_12 (by decide) ?_
    refine r_icmp_ne dX11_fault_13 rfl (fun c2 => ?_) (fun c2 => ?_)
    · refine r_bipush dX11_fault_24 (by decide) ?_
      exact r_iret dX11_fault_26 rfl ((h.1 c1).1 c2)
    · refine r_aload_n dX11_fault_16 rfl ?_
      refine r_iconst dX11_fault_17 (by decide) ?_
      refine r_invV_i dX11_fault_18 kM11_268 (by decide) (Nat.le_of_ble_eq_true rfl) rfl rfl (Nat.le_of_ble_eq_true rfl) (Nat.le_of_ble_eq_true rfl) (sh_o hS kk468 (by decide)) (Call.mono ((h.1 c1).2 c2) (Nat.le_refl _) ?_)
      rintro _ M4 ⟨z3, rfl, s7, h5⟩
      refine ⟨_, rfl, ?_⟩
      refine r_goto (tgt := 26) dX11_fault_21 rfl ?_
      exact r_iret dX11_fault_26 rfl h5
  · refine r_aload_n dX11_fault_4 rfl ?_
    refine r_invV_i dX11_fault_5 kM11_265 (by decide) (Nat.le_of_ble_eq_true rfl) rfl rfl (Nat.le_of_ble_eq_true rfl) (Nat.le_of_ble_eq_true rfl) (sh_o hS kk468 (by decide)) (Call.mono (h.2 c1) (Nat.le_refl _) ?_)
    rintro _ M9 ⟨z8, rfl, s12, h10⟩
    refine ⟨_, rfl, ?_⟩
    refine r_goto (tgt := 26) dX11_fault_8 rfl ?_
    exact r_iret dX11_fault_26 rfl h10
theorem vn_takeIsland {e : Nat} {M : jM} {Q : Option jV → jM → Prop}  (he : 6 ≤ e) (hS : Shp M)
  (h : ∀ N1 : jM, N1 = (si M 468 25 (iv M 468 20)) → Shp N1 → (∀ N3 : jM, N3 = (si N1 468 26 (iv N1 468 21)) → Shp N3 → (Run (e + 1) mX11_takeIsland 18 [some (vR 468), some (vI (0 : Int))] [] N3 Q))) :
  Call (e + 1) mX11_takeIsland [vR 468] M Q := by
  show Run (e + 1) mX11_takeIsland 0 [some (vR 468), none] [] M Q
  refine r_aload_n dX11_takeIsland_0 rfl ?_
  refine r_aload_n dX11_takeIsland_1 rfl ?_
  refine r_get0 dX11_takeIsland_2 kF11_248 (sh_o hS kk468 (by decide)) ?_
  refine r_put0 dX11_takeIsland_5 kF11_287 (sh_o hS kk468 (by decide)) (Or.inl rfl) ?_
  have K6 : ∀ N1 : jM, N1 = (si M 468 25 (iv M 468 20)) → Run (e + 1) mX11_takeIsland 8 [some (vR 468), none] [] N1 Q := by
    intro N1 hN5
    have sN2 : Shp N1 := by rw [hN5]; exact hS
    refine r_aload_n dX11_takeIsland_8 rfl ?_
    refine r_aload_n dX11_takeIsland_9 rfl ?_
    refine r_get0 dX11_takeIsland_10 kF11_251 (sh_o sN2 kk468 (by decide)) ?_
    refine r_put0 dX11_takeIsland_13 kF11_281 (sh_o sN2 kk468 (by decide)) (Or.inl rfl) ?_
    have K8 : ∀ N3 : jM, N3 = (si N1 468 26 (iv N1 468 21)) → Run (e + 1) mX11_takeIsland 16 [some (vR 468), none] [] N3 Q := by
      intro N3 hN7
      have sN4 : Shp N3 := by rw [hN7]; exact sN2
      refine r_iconst dX11_takeIsland_16 (by decide) ?_
      refine r_istore_n (ls2 := [some (vR 468), some (vI (0 : Int))]) dX11_takeIsland_17 (Nat.le_of_ble_eq_true rfl) rfl ?_
      exact ((h N1 hN5 sN2) N3 hN7 sN4)
    exact K8 _ rfl
  exact K6 _ rfl
theorem vn_takeIsland_18 {e : Nat} {M : jM} {Q : Option jV → jM → Prop} {l1 : Int}  (he : 6 ≤ e) (hS : Shp M)
  (h : (((4 : Int) ≤ l1) → (Run (e + 1) mX11_takeIsland 43 [some (vR 468), some (vI (0 : Int))] [] M Q)) ∧ (¬ ((4 : Int) ≤ l1) → ((0 ≤ l1 ∧ l1 < 4) ∧ (∀ N11 : jM, N11 = (si M 482 (l1).toNat (iv M 479 (l1).toNat)) → Shp N11 → (Run (e + 1) mX11_takeIsland 18 [some (vR 468), some (vI (w32 (l1 + (1 : Int))))] [] N11 Q))))) :
  Run (e + 1) mX11_takeIsland 18 [some (vR 468), some (vI l1)] [] M Q := by
  refine r_iload_n dX11_takeIsland_18 rfl ?_
  refine r_iconst dX11_takeIsland_19 (by decide) ?_
  refine r_icmp_ge dX11_takeIsland_20 rfl (fun c9 => ?_) (fun c9 => ?_)
  · refine r_iconst dX11_takeIsland_41 (by decide) ?_
    refine r_istore_n (ls2 := [some (vR 468), some (vI (0 : Int))]) dX11_takeIsland_42 (Nat.le_of_ble_eq_true rfl) rfl ?_
    exact (h.1 c9)
  · refine r_aload_n dX11_takeIsland_23 rfl ?_
    refine r_getS (v := 482) dX11_takeIsland_24 kF11_49 (sh_o hS kk468 (by decide)) (sh_f hS rr468_22 (by decide)) ?_
    refine r_iload_n dX11_takeIsland_27 rfl ?_
    refine r_aload_n dX11_takeIsland_28 rfl ?_
    refine r_getS (v := 479) dX11_takeIsland_29 kF11_40 (sh_o hS kk468 (by decide)) (sh_f hS rr468_17 (by decide)) ?_
    refine r_iload_n dX11_takeIsland_32 rfl ?_
    have ob10 := (h.2 c9).1
    refine r_iaload dX11_takeIsland_33 (jro_ix (sh_r hS kk479 (by decide)) ob10) ?_
    refine r_iastore dX11_takeIsland_34 ⟨jro_ix (sh_r hS kk482 (by decide)) ob10, (by decide)⟩ ?_
    have K14 : ∀ N11 : jM, N11 = (si M 482 (l1).toNat (iv M 479 (l1).toNat)) → Run (e + 1) mX11_takeIsland 35 [some (vR 468), some (vI l1)] [] N11 Q := by
      intro N11 hN13
      have sN12 : Shp N11 := by rw [hN13]; exact hS
      refine r_iinc (ls2 := [some (vR 468), some (vI (w32 (l1 + (1 : Int))))]) dX11_takeIsland_35 rfl rfl ?_
      refine r_goto (tgt := 18) dX11_takeIsland_38 rfl ?_
      exact ((h.2 c9).2 N11 hN13 sN12)
    exact K14 _ rfl
theorem vn_takeIsland_43 {e : Nat} {M : jM} {Q : Option jV → jM → Prop} {l1 : Int}  (he : 6 ≤ e) (hS : Shp M)
  (h : (((24 : Int) ≤ l1) → (Run (e + 1) mX11_takeIsland 69 [some (vR 468), some (vI (0 : Int))] [] M Q)) ∧ (¬ ((24 : Int) ≤ l1) → ((0 ≤ l1 ∧ l1 < 24) ∧ (∀ N17 : jM, N17 = (si M 483 (l1).toNat (iv M 480 (l1).toNat)) → Shp N17 → (Run (e + 1) mX11_takeIsland 43 [some (vR 468), some (vI (w32 (l1 + (1 : Int))))] [] N17 Q))))) :
  Run (e + 1) mX11_takeIsland 43 [some (vR 468), some (vI l1)] [] M Q := by
  refine r_iload_n dX11_takeIsland_43 rfl ?_
  refine r_bipush dX11_takeIsland_44 (by decide) ?_
  refine r_icmp_ge dX11_takeIsland_46 rfl (fun c15 => ?_) (fun c15 => ?_)
  · refine r_iconst dX11_takeIsland_67 (by decide) ?_
    refine r_istore_n (ls2 := [some (vR 468), some (vI (0 : Int))]) dX11_takeIsland_68 (Nat.le_of_ble_eq_true rfl) rfl ?_
    exact (h.1 c15)
  · refine r_aload_n dX11_takeIsland_49 rfl ?_
    refine r_getS (v := 483) dX11_takeIsland_50 kF11_52 (sh_o hS kk468 (by decide)) (sh_f hS rr468_23 (by decide)) ?_
    refine r_iload_n dX11_takeIsland_53 rfl ?_
    refine r_aload_n dX11_takeIsland_54 rfl ?_
    refine r_getS (v := 480) dX11_takeIsland_55 kF11_43 (sh_o hS kk468 (by decide)) (sh_f hS rr468_18 (by decide)) ?_
    refine r_iload_n dX11_takeIsland_58 rfl ?_
    have ob16 := (h.2 c15).1
    refine r_iaload dX11_takeIsland_59 (jro_ix (sh_r hS kk480 (by decide)) ob16) ?_
    refine r_iastore dX11_takeIsland_60 ⟨jro_ix (sh_r hS kk483 (by decide)) ob16, (by decide)⟩ ?_
    have K20 : ∀ N17 : jM, N17 = (si M 483 (l1).toNat (iv M 480 (l1).toNat)) → Run (e + 1) mX11_takeIsland 61 [some (vR 468), some (vI l1)] [] N17 Q := by
      intro N17 hN19
      have sN18 : Shp N17 := by rw [hN19]; exact hS
      refine r_iinc (ls2 := [some (vR 468), some (vI (w32 (l1 + (1 : Int))))]) dX11_takeIsland_61 rfl rfl ?_
      refine r_goto (tgt := 43) dX11_takeIsland_64 rfl ?_
      exact ((h.2 c15).2 N17 hN19 sN18)
    exact K20 _ rfl
theorem vn_takeIsland_69 {e : Nat} {M : jM} {Q : Option jV → jM → Prop} {l1 : Int}  (he : 6 ≤ e) (hS : Shp M)
  (h : (((48 : Int) ≤ l1) → (Run (e + 1) mX11_takeIsland 95 [some (vR 468), some (vI (0 : Int))] [] M Q)) ∧ (¬ ((48 : Int) ≤ l1) → ((0 ≤ l1 ∧ l1 < 48) ∧ (∀ N23 : jM, N23 = (si M 484 (l1).toNat (iv M 481 (l1).toNat)) → Shp N23 → (Run (e + 1) mX11_takeIsland 69 [some (vR 468), some (vI (w32 (l1 + (1 : Int))))] [] N23 Q))))) :
  Run (e + 1) mX11_takeIsland 69 [some (vR 468), some (vI l1)] [] M Q := by
  refine r_iload_n dX11_takeIsland_69 rfl ?_
  refine r_bipush dX11_takeIsland_70 (by decide) ?_
  refine r_icmp_ge dX11_takeIsland_72 rfl (fun c21 => ?_) (fun c21 => ?_)
  · refine r_iconst dX11_takeIsland_93 (by decide) ?_
    refine r_istore_n (ls2 := [some (vR 468), some (vI (0 : Int))]) dX11_takeIsland_94 (Nat.le_of_ble_eq_true rfl) rfl ?_
    exact (h.1 c21)
  · refine r_aload_n dX11_takeIsland_75 rfl ?_
    refine r_getS (v := 484) dX11_takeIsland_76 kF11_55 (sh_o hS kk468 (by decide)) (sh_f hS rr468_24 (by decide)) ?_
    refine r_iload_n dX11_takeIsland_79 rfl ?_
    refine r_aload_n dX11_takeIsland_80 rfl ?_
    refine r_getS (v := 481) dX11_takeIsland_81 kF11_46 (sh_o hS kk468 (by decide)) (sh_f hS rr468_19 (by decide)) ?_
    refine r_iload_n dX11_takeIsland_84 rfl ?_
    have ob22 := (h.2 c21).1
    refine r_iaload dX11_takeIsland_85 (jro_ix (sh_r hS kk481 (by decide)) ob22) ?_
    refine r_iastore dX11_takeIsland_86 ⟨jro_ix (sh_r hS kk484 (by decide)) ob22, (by decide)⟩ ?_
    have K26 : ∀ N23 : jM, N23 = (si M 484 (l1).toNat (iv M 481 (l1).toNat)) → Run (e + 1) mX11_takeIsland 87 [some (vR 468), some (vI l1)] [] N23 Q := by
      intro N23 hN25
      have sN24 : Shp N23 := by rw [hN25]; exact hS
      refine r_iinc (ls2 := [some (vR 468), some (vI (w32 (l1 + (1 : Int))))]) dX11_takeIsland_87 rfl rfl ?_
      refine r_goto (tgt := 69) dX11_takeIsland_90 rfl ?_
      exact ((h.2 c21).2 N23 hN25 sN24)
    exact K26 _ rfl
theorem vn_takeIsland_95 {e : Nat} {M : jM} {Q : Option jV → jM → Prop} {l1 : Int}  (he : 6 ≤ e) (hS : Shp M)
  (h : (((352 : Int) ≤ l1) → (Call e mX11_layTold [vR 468] M (fun r31 M29 => r31 = none ∧ Shp M29 ∧ (∀ N33 : jM, N33 = (si M29 486 169 (iv M29 482 3)) → Shp N33 → (∀ N35 : jM, N35 = (si N33 468 42 (0 : Int)) → Shp N35 → (∀ N37 : jM, N37 = (si N35 468 33 (0 : Int)) → Shp N37 → (∀ N39 : jM, N39 = (si N37 468 46 (0 : Int)) → Shp N39 → (Q (some (vI (iv N39 468 25))) N39)))))))) ∧ (¬ ((352 : Int) ≤ l1) → ((0 ≤ l1 ∧ l1 < 352) ∧ (∀ N42 : jM, N42 = (si M 486 (l1).toNat (0 : Int)) → Shp N42 → (Run (e + 1) mX11_takeIsland 95 [some (vR 468), some (vI (w32 (l1 + (1 : Int))))] [] N42 Q))))) :
  Run (e + 1) mX11_takeIsland 95 [some (vR 468), some (vI l1)] [] M Q := by
  refine r_iload_n dX11_takeIsland_95 rfl ?_
  refine r_sipush dX11_takeIsland_96 (by decide) ?_
  refine r_icmp_ge dX11_takeIsland_99 rfl (fun c27 => ?_) (fun c27 => ?_)
  · refine r_aload_n dX11_takeIsland_115 rfl ?_
    refine r_invV_v dX11_takeIsland_116 kM11_290 (by decide) (Nat.le_of_ble_eq_true rfl) rfl rfl (Nat.le_of_ble_eq_true rfl) (Nat.le_of_ble_eq_true rfl) (sh_o hS kk468 (by decide)) (Call.mono (h.1 c27) (Nat.le_refl _) ?_)
    rintro _ M29 ⟨rfl, s32, h30⟩
    refine ⟨rfl, ?_⟩
    refine r_aload_n dX11_takeIsland_119 rfl ?_
    refine r_getS (v := 486) dX11_takeIsland_120 kF11_61 (sh_o s32 kk468 (by decide)) (sh_f s32 rr468_28 (by decide)) ?_
    refine r_sipush dX11_takeIsland_123 (by decide) ?_
    refine r_aload_n dX11_takeIsland_126 rfl ?_
    refine r_getS (v := 482) dX11_takeIsland_127 kF11_49 (sh_o s32 kk468 (by decide)) (sh_f s32 rr468_22 (by decide)) ?_
    refine r_iconst dX11_takeIsland_130 (by decide) ?_
    refine r_ialoadK (k := 3) dX11_takeIsland_131 rfl (jro_ix (n := 4) (sh_r s32 kk482 (by decide)) (by decide)) ?_
    refine r_iastoreK (k := 169) dX11_takeIsland_132 rfl ⟨jro_ix (n := 352) (sh_r s32 kk486 (by decide)) (by decide), (by decide)⟩ ?_
    have K45 : ∀ N33 : jM, N33 = (si M29 486 169 (iv M29 482 3)) → Run (e + 1) mX11_takeIsland 133 [some (vR 468), some (vI l1)] [] N33 Q := by
      intro N33 hN44
      have sN34 : Shp N33 := by rw [hN44]; exact s32
      refine r_aload_n dX11_takeIsland_133 rfl ?_
      refine r_iconst dX11_takeIsland_134 (by decide) ?_
      refine r_put0 dX11_takeIsland_135 kF11_293 (sh_o sN34 kk468 (by decide)) (Or.inl rfl) ?_
      have K47 : ∀ N35 : jM, N35 = (si N33 468 42 (0 : Int)) → Run (e + 1) mX11_takeIsland 138 [some (vR 468), some (vI l1)] [] N35 Q := by
        intro N35 hN46
        have sN36 : Shp N35 := by rw [hN46]; exact sN34
        refine r_aload_n dX11_takeIsland_138 rfl ?_
        refine r_iconst dX11_takeIsland_139 (by decide) ?_
        refine r_put0 dX11_takeIsland_140 kF11_296 (sh_o sN36 kk468 (by decide)) (Or.inl rfl) ?_
        have K49 : ∀ N37 : jM, N37 = (si N35 468 33 (0 : Int)) → Run (e + 1) mX11_takeIsland 143 [some (vR 468), some (vI l1)] [] N37 Q := by
          intro N37 hN48
          have sN38 : Shp N37 := by rw [hN48]; exact sN36
          refine r_aload_n dX11_takeIsland_143 rfl ?_
          refine r_iconst dX11_takeIsland_144 (by decide) ?_
          refine r_put3 dX11_takeIsland_145 kF11_299 (sh_o sN38 kk468 (by decide)) (Or.inl rfl) (by decide) ?_
          have K51 : ∀ N39 : jM, N39 = (si N37 468 46 (0 : Int)) → Run (e + 1) mX11_takeIsland 148 [some (vR 468), some (vI l1)] [] N39 Q := by
            intro N39 hN50
            have sN40 : Shp N39 := by rw [hN50]; exact sN38
            refine r_aload_n dX11_takeIsland_148 rfl ?_
            refine r_get0 dX11_takeIsland_149 kF11_287 (sh_o sN40 kk468 (by decide)) ?_
            exact r_iret dX11_takeIsland_152 rfl ((((h30 N33 hN44 sN34) N35 hN46 sN36) N37 hN48 sN38) N39 hN50 sN40)
          exact K51 _ rfl
        exact K49 _ rfl
      exact K47 _ rfl
    exact K45 _ rfl
  · refine r_aload_n dX11_takeIsland_102 rfl ?_
    refine r_getS (v := 486) dX11_takeIsland_103 kF11_61 (sh_o hS kk468 (by decide)) (sh_f hS rr468_28 (by decide)) ?_
    refine r_iload_n dX11_takeIsland_106 rfl ?_
    refine r_iconst dX11_takeIsland_107 (by decide) ?_
    have ob41 := (h.2 c27).1
    refine r_iastore dX11_takeIsland_108 ⟨jro_ix (sh_r hS kk486 (by decide)) ob41, (by decide)⟩ ?_
    have K53 : ∀ N42 : jM, N42 = (si M 486 (l1).toNat (0 : Int)) → Run (e + 1) mX11_takeIsland 109 [some (vR 468), some (vI l1)] [] N42 Q := by
      intro N42 hN52
      have sN43 : Shp N42 := by rw [hN52]; exact hS
      refine r_iinc (ls2 := [some (vR 468), some (vI (w32 (l1 + (1 : Int))))]) dX11_takeIsland_109 rfl rfl ?_
      refine r_goto (tgt := 95) dX11_takeIsland_112 rfl ?_
      exact ((h.2 c27).2 N42 hN52 sN43)
    exact K53 _ rfl
theorem vn_text {e : Nat} {M : jM} {Q : Option jV → jM → Prop} {st : Int} (he : 6 ≤ e) (hS : Shp M)
  (h : ((st ≠ (0 : Int)) → (((st ≠ (1 : Int)) → (Q (some (vI (-1 : Int))) M)) ∧ (¬ (st ≠ (1 : Int)) → ((((4 : Int) ≤ (iv M 468 13)) → (Q (some (vI (-1 : Int))) M)) ∧ (¬ ((4 : Int) ≤ (iv M 468 13)) → (Call e mX11_readLaw [vR 468, vI (iv M 468 13)] M (fun r7 M5 => ∃ z4 : Int, r7 = some (vI z4) ∧ Shp M5 ∧ (((z4 ≠ (-1 : Int)) → (Q (some (vI (-1 : Int))) M5)) ∧ (¬ (z4 ≠ (-1 : Int)) → (∀ N10 : jM, N10 = (si M5 468 2 (0 : Int)) → Shp N10 → (∀ N12 : jM, N12 = (si N10 468 13 (w32 ((iv N10 468 13) + (1 : Int)))) → Shp N12 → (Q (some (vI (w32 ((iv N12 468 13) - (1 : Int))))) N12)))))))))))) ∧ (¬ (st ≠ (0 : Int)) → (Call e mX11_readIsland [vR 468] M (fun r17 M15 => ∃ z14 : Int, r17 = some (vI z14) ∧ Shp M15 ∧ (((z14 ≠ (-1 : Int)) → (((st ≠ (1 : Int)) → (Q (some (vI (-1 : Int))) M15)) ∧ (¬ (st ≠ (1 : Int)) → ((((4 : Int) ≤ (iv M15 468 13)) → (Q (some (vI (-1 : Int))) M15)) ∧ (¬ ((4 : Int) ≤ (iv M15 468 13)) → (Call e mX11_readLaw [vR 468, vI (iv M15 468 13)] M15 (fun r25 M23 => ∃ z22 : Int, r25 = some (vI z22) ∧ Shp M23 ∧ (((z22 ≠ (-1 : Int)) → (Q (some (vI (-1 : Int))) M23)) ∧ (¬ (z22 ≠ (-1 : Int)) → (∀ N28 : jM, N28 = (si M23 468 2 (0 : Int)) → Shp N28 → (∀ N30 : jM, N30 = (si N28 468 13 (w32 ((iv N28 468 13) + (1 : Int)))) → Shp N30 → (Q (some (vI (w32 ((iv N30 468 13) - (1 : Int))))) N30)))))))))))) ∧ (¬ (z14 ≠ (-1 : Int)) → (∀ N32 : jM, N32 = (si M15 468 2 (0 : Int)) → Shp N32 → (Call e mX11_takeIsland [vR 468] N32 (fun r37 M35 => ∃ z34 : Int, r37 = some (vI z34) ∧ Shp M35 ∧ (Q (some (vI z34)) M35)))))))))) :
  Call (e + 1) mX11_text [vR 468, vI st] M Q := by
  show Run (e + 1) mX11_text 0 [some (vR 468), some (vI st)] [] M Q
  refine r_iload_n dX11_text_0 rfl ?_
  refine r_if_ne dX11_text_1 rfl (fun c1 => ?_) (fun c1 => ?_)
  · refine r_iload_n dX11_text_22 rfl ?_
    refine r_iconst dX11_text_23 (by decide) ?_
    refine r_icmp_ne dX11_text_24 rfl (fun c2 => ?_) (fun c2 => ?_)
    · refine r_iconst dX11_text_69 (by decide) ?_
      exact r_iret dX11_text_70 rfl ((h.1 c1).1 c2)
    · refine r_aload_n dX11_text_27 rfl ?_
      refine r_get0 dX11_text_28 kF11_306 (sh_o hS kk468 (by decide)) ?_
      refine r_iconst dX11_text_31 (by decide) ?_
      refine r_icmp_ge dX11_text_32 rfl (fun c3 => ?_) (fun c3 => ?_)
      · refine r_iconst dX11_text_69 (by decide) ?_
        exact r_iret dX11_text_70 rfl (((h.1 c1).2 c2).1 c3)
      · refine r_aload_n dX11_text_35 rfl ?_
        refine r_aload_n dX11_text_36 rfl ?_
        refine r_get0 dX11_text_37 kF11_306 (sh_o hS kk468 (by decide)) ?_
        refine r_invV_i dX11_text_40 kM11_268 (by decide) (Nat.le_of_ble_eq_true rfl) rfl rfl (Nat.le_of_ble_eq_true rfl) (Nat.le_of_ble_eq_true rfl) (sh_o hS kk468 (by decide)) (Call.mono (((h.1 c1).2 c2).2 c3) (Nat.le_refl _) ?_)
        rintro _ M5 ⟨z4, rfl, s8, h6⟩
        refine ⟨_, rfl, ?_⟩
        refine r_iconst dX11_text_43 (by decide) ?_
        refine r_icmp_ne dX11_text_44 rfl (fun c9 => ?_) (fun c9 => ?_)
        · refine r_iconst dX11_text_69 (by decide) ?_
          exact r_iret dX11_text_70 rfl (h6.1 c9)
        · refine r_aload_n dX11_text_47 rfl ?_
          refine r_iconst dX11_text_48 (by decide) ?_
          refine r_put0 dX11_text_49 kF11_116 (sh_o s8 kk468 (by decide)) (Or.inl rfl) ?_
          have K40 : ∀ N10 : jM, N10 = (si M5 468 2 (0 : Int)) → Run (e + 1) mX11_text 52 [some (vR 468), some (vI st)] [] N10 Q := by
            intro N10 hN39
            have sN11 : Shp N10 := by rw [hN39]; exact s8
            refine r_aload_n dX11_text_52 rfl ?_
            refine r_dupR dX11_text_53 ?_
            refine r_get0 dX11_text_54 kF11_306 (sh_o sN11 kk468 (by decide)) ?_
            refine r_iconst dX11_text_57 (by decide) ?_
            refine r_iadd dX11_text_58 ?_
            refine r_put0 dX11_text_59 kF11_306 (sh_o sN11 kk468 (by decide)) (Or.inl rfl) ?_
            have K42 : ∀ N12 : jM, N12 = (si N10 468 13 (w32 ((iv N10 468 13) + (1 : Int)))) → Run (e + 1) mX11_text 62 [some (vR 468), some (vI st)] [] N12 Q := by
              intro N12 hN41
              have sN13 : Shp N12 := by rw [hN41]; exact sN11
              refine r_aload_n dX11_text_62 rfl ?_
              refine r_get0 dX11_text_63 kF11_306 (sh_o sN13 kk468 (by decide)) ?_
              refine r_iconst dX11_text_66 (by decide) ?_
              refine r_isub dX11_text_67 ?_
              exact r_iret dX11_text_68 rfl (((h6.2 c9) N10 hN39 sN11) N12 hN41 sN13)
            exact K42 _ rfl
          exact K40 _ rfl
  · refine r_aload_n dX11_text_4 rfl ?_
    refine r_invV_i dX11_text_5 kM11_265 (by decide) (Nat.le_of_ble_eq_true rfl) rfl rfl (Nat.le_of_ble_eq_true rfl) (Nat.le_of_ble_eq_true rfl) (sh_o hS kk468 (by decide)) (Call.mono (h.2 c1) (Nat.le_refl _) ?_)
    rintro _ M15 ⟨z14, rfl, s18, h16⟩
    refine ⟨_, rfl, ?_⟩
    refine r_iconst dX11_text_8 (by decide) ?_
    refine r_icmp_ne dX11_text_9 rfl (fun c19 => ?_) (fun c19 => ?_)
    · refine r_iload_n dX11_text_22 rfl ?_
      refine r_iconst dX11_text_23 (by decide) ?_
      refine r_icmp_ne dX11_text_24 rfl (fun c20 => ?_) (fun c20 => ?_)
      · refine r_iconst dX11_text_69 (by decide) ?_
        exact r_iret dX11_text_70 rfl ((h16.1 c19).1 c20)
      · refine r_aload_n dX11_text_27 rfl ?_
        refine r_get0 dX11_text_28 kF11_306 (sh_o s18 kk468 (by decide)) ?_
        refine r_iconst dX11_text_31 (by decide) ?_
        refine r_icmp_ge dX11_text_32 rfl (fun c21 => ?_) (fun c21 => ?_)
        · refine r_iconst dX11_text_69 (by decide) ?_
          exact r_iret dX11_text_70 rfl (((h16.1 c19).2 c20).1 c21)
        · refine r_aload_n dX11_text_35 rfl ?_
          refine r_aload_n dX11_text_36 rfl ?_
          refine r_get0 dX11_text_37 kF11_306 (sh_o s18 kk468 (by decide)) ?_
          refine r_invV_i dX11_text_40 kM11_268 (by decide) (Nat.le_of_ble_eq_true rfl) rfl rfl (Nat.le_of_ble_eq_true rfl) (Nat.le_of_ble_eq_true rfl) (sh_o s18 kk468 (by decide)) (Call.mono (((h16.1 c19).2 c20).2 c21) (Nat.le_refl _) ?_)
          rintro _ M23 ⟨z22, rfl, s26, h24⟩
          refine ⟨_, rfl, ?_⟩
          refine r_iconst dX11_text_43 (by decide) ?_
          refine r_icmp_ne dX11_text_44 rfl (fun c27 => ?_) (fun c27 => ?_)
          · refine r_iconst dX11_text_69 (by decide) ?_
            exact r_iret dX11_text_70 rfl (h24.1 c27)
          · refine r_aload_n dX11_text_47 rfl ?_
            refine r_iconst dX11_text_48 (by decide) ?_
            refine r_put0 dX11_text_49 kF11_116 (sh_o s26 kk468 (by decide)) (Or.inl rfl) ?_
            have K44 : ∀ N28 : jM, N28 = (si M23 468 2 (0 : Int)) → Run (e + 1) mX11_text 52 [some (vR 468), some (vI st)] [] N28 Q := by
              intro N28 hN43
              have sN29 : Shp N28 := by rw [hN43]; exact s26
              refine r_aload_n dX11_text_52 rfl ?_
              refine r_dupR dX11_text_53 ?_
              refine r_get0 dX11_text_54 kF11_306 (sh_o sN29 kk468 (by decide)) ?_
              refine r_iconst dX11_text_57 (by decide) ?_
              refine r_iadd dX11_text_58 ?_
              refine r_put0 dX11_text_59 kF11_306 (sh_o sN29 kk468 (by decide)) (Or.inl rfl) ?_
              have K46 : ∀ N30 : jM, N30 = (si N28 468 13 (w32 ((iv N28 468 13) + (1 : Int)))) → Run (e + 1) mX11_text 62 [some (vR 468), some (vI st)] [] N30 Q := by
                intro N30 hN45
                have sN31 : Shp N30 := by rw [hN45]; exact sN29
                refine r_aload_n dX11_text_62 rfl ?_
                refine r_get0 dX11_text_63 kF11_306 (sh_o sN31 kk468 (by decide)) ?_
                refine r_iconst dX11_text_66 (by decide) ?_
                refine r_isub dX11_text_67 ?_
                exact r_iret dX11_text_68 rfl (((h24.2 c27) N28 hN43 sN29) N30 hN45 sN31)
              exact K46 _ rfl
            exact K44 _ rfl
    · refine r_aload_n dX11_text_12 rfl ?_
      refine r_iconst dX11_text_13 (by decide) ?_
      refine r_put0 dX11_text_14 kF11_116 (sh_o s18 kk468 (by decide)) (Or.inl rfl) ?_
      have K48 : ∀ N32 : jM, N32 = (si M15 468 2 (0 : Int)) → Run (e + 1) mX11_text 17 [some (vR 468), some (vI st)] [] N32 Q := by
        intro N32 hN47
        have sN33 : Shp N32 := by rw [hN47]; exact s18
        refine r_aload_n dX11_text_17 rfl ?_
        refine r_invV_i dX11_text_18 kM11_303 (by decide) (Nat.le_of_ble_eq_true rfl) rfl rfl (Nat.le_of_ble_eq_true rfl) (Nat.le_of_ble_eq_true rfl) (sh_o sN33 kk468 (by decide)) (Call.mono ((h16.2 c19) N32 hN47 sN33) (Nat.le_refl _) ?_)
        rintro _ M35 ⟨z34, rfl, s38, h36⟩
        refine ⟨_, rfl, ?_⟩
        exact r_iret dX11_text_21 rfl h36
      exact K48 _ rfl
theorem vn_items479 {e : Nat} {M : jM} {Q : Option jV → jM → Prop} {st : Int} {fr : Int} {mn : Int} (he : 6 ≤ e) (hS : Shp M)
  (h : Run (e + 1) mX11_items 3 [some (vR 468), some (vI st), some (vR 479), some (vI fr), some (vI mn), some (vI (0 : Int)), none] [] M Q) :
  Call (e + 1) mX11_items [vR 468, vI st, vR 479, vI fr, vI mn] M Q := by
  show Run (e + 1) mX11_items 0 [some (vR 468), some (vI st), some (vR 479), some (vI fr), some (vI mn), none, none] [] M Q
  refine r_iconst dX11_items_0 (by decide) ?_
  refine r_istore (ls2 := [some (vR 468), some (vI st), some (vR 479), some (vI fr), some (vI mn), some (vI (0 : Int)), none]) dX11_items_1 (Nat.le_of_ble_eq_true rfl) rfl ?_
  exact h
theorem vn_items479_3 {e : Nat} {M : jM} {Q : Option jV → jM → Prop} {st : Int} {fr : Int} {mn : Int} {l5 : Int} {l6 : Option jV}  (he : 6 ≤ e) (hS : Shp M)
  (h : ((mn ≤ l5) → (Call e mX11_look [vR 468] M (fun r5 M3 => ∃ z2 : Int, r5 = some (vI z2) ∧ Shp M3 ∧ (Call e mX11_itemOf [vI st, vI z2] M3 (fun r10 M8 => ∃ z7 : Int, r10 = some (vI z7) ∧ Shp M8 ∧ (Run (e + 1) mX11_items 41 [some (vR 468), some (vI st), some (vR 479), some (vI fr), some (vI mn), some (vI (0 : Int)), some (vI z7)] [] M8 Q)))))) ∧ (¬ (mn ≤ l5) → (Call e mX11_usual [vI st, vI l5] M (fun r15 M13 => ∃ z12 : Int, r15 = some (vI z12) ∧ Shp M13 ∧ ((0 ≤ (w32 (fr + l5)) ∧ (w32 (fr + l5)) < 4) ∧ (∀ N18 : jM, N18 = (si M13 479 (w32 (fr + l5)).toNat z12) → Shp N18 → (Run (e + 1) mX11_items 3 [some (vR 468), some (vI st), some (vR 479), some (vI fr), some (vI mn), some (vI (w32 (l5 + (1 : Int)))), l6] [] N18 Q))))))) :
  Run (e + 1) mX11_items 3 [some (vR 468), some (vI st), some (vR 479), some (vI fr), some (vI mn), some (vI l5), l6] [] M Q := by
  refine r_iload dX11_items_3 rfl ?_
  refine r_iload dX11_items_5 rfl ?_
  refine r_icmp_ge dX11_items_7 rfl (fun c1 => ?_) (fun c1 => ?_)
  · refine r_iconst dX11_items_28 (by decide) ?_
    refine r_istore (ls2 := [some (vR 468), some (vI st), some (vR 479), some (vI fr), some (vI mn), some (vI (0 : Int)), l6]) dX11_items_29 (Nat.le_of_ble_eq_true rfl) rfl ?_
    refine r_iload_n dX11_items_31 rfl ?_
    refine r_aload_n dX11_items_32 rfl ?_
    refine r_invV_i dX11_items_33 kM11_138 (by decide) (Nat.le_of_ble_eq_true rfl) rfl rfl (Nat.le_of_ble_eq_true rfl) (Nat.le_of_ble_eq_true rfl) (sh_o hS kk468 (by decide)) (Call.mono (h.1 c1) (Nat.le_refl _) ?_)
    rintro _ M3 ⟨z2, rfl, s6, h4⟩
    refine ⟨_, rfl, ?_⟩
    refine r_invS_i dX11_items_36 (by decide) kXn11_232 kM11_232 (by decide) (Nat.le_of_ble_eq_true rfl) rfl rfl (Nat.le_of_ble_eq_true rfl) (Nat.le_of_ble_eq_true rfl) (Call.mono h4 (Nat.le_refl _) ?_)
    rintro _ M8 ⟨z7, rfl, s11, h9⟩
    refine ⟨_, rfl, ?_⟩
    refine r_istore (ls2 := [some (vR 468), some (vI st), some (vR 479), some (vI fr), some (vI mn), some (vI (0 : Int)), some (vI z7)]) dX11_items_39 (Nat.le_of_ble_eq_true rfl) rfl ?_
    exact h9
  · refine r_aload_n dX11_items_10 rfl ?_
    refine r_iload_n dX11_items_11 rfl ?_
    refine r_iload dX11_items_12 rfl ?_
    refine r_iadd dX11_items_14 ?_
    refine r_iload_n dX11_items_15 rfl ?_
    refine r_iload dX11_items_16 rfl ?_
    refine r_invS_i dX11_items_18 (by decide) kXn11_228 kM11_228 (by decide) (Nat.le_of_ble_eq_true rfl) rfl rfl (Nat.le_of_ble_eq_true rfl) (Nat.le_of_ble_eq_true rfl) (Call.mono (h.2 c1) (Nat.le_refl _) ?_)
    rintro _ M13 ⟨z12, rfl, s16, h14⟩
    refine ⟨_, rfl, ?_⟩
    have ob17 := h14.1
    refine r_iastore dX11_items_21 ⟨jro_ix (sh_r s16 kk479 (by decide)) ob17, (by decide)⟩ ?_
    have K21 : ∀ N18 : jM, N18 = (si M13 479 (w32 (fr + l5)).toNat z12) → Run (e + 1) mX11_items 22 [some (vR 468), some (vI st), some (vR 479), some (vI fr), some (vI mn), some (vI l5), l6] [] N18 Q := by
      intro N18 hN20
      have sN19 : Shp N18 := by rw [hN20]; exact s16
      refine r_iinc (ls2 := [some (vR 468), some (vI st), some (vR 479), some (vI fr), some (vI mn), some (vI (w32 (l5 + (1 : Int)))), l6]) dX11_items_22 rfl rfl ?_
      refine r_goto (tgt := 3) dX11_items_25 rfl ?_
      exact (h14.2 N18 hN20 sN19)
    exact K21 _ rfl
theorem vn_items479_41 {e : Nat} {M : jM} {Q : Option jV → jM → Prop} {st : Int} {fr : Int} {mn : Int} {l5 : Int} {l6 : Int}  (he : 6 ≤ e) (hS : Shp M)
  (h : (((iv M 468 4) ≠ (-1 : Int)) → (Q none M)) ∧ (¬ ((iv M 468 4) ≠ (-1 : Int)) → (((l6 = (-1 : Int)) → (Q none M)) ∧ (¬ (l6 = (-1 : Int)) → ((((fHas l5 l6) ≠ (0 : Int)) → (Q none M)) ∧ (¬ ((fHas l5 l6) ≠ (0 : Int)) → (∀ N25 : jM, N25 = (si M 468 3 (w32 ((iv M 468 3) + (1 : Int)))) → Shp N25 → (Call e mX11_lowest [vI st, vI l6] N25 (fun r30 M28 => ∃ z27 : Int, r30 = some (vI z27) ∧ Shp M28 ∧ (Call e mX11_highest [vI st, vI l6] M28 (fun r35 M33 => ∃ z32 : Int, r35 = some (vI z32) ∧ Shp M33 ∧ (Call e mX11_number [vR 468, vI z27, vI z32] M33 (fun r40 M38 => ∃ z37 : Int, r40 = some (vI z37) ∧ Shp M38 ∧ ((0 ≤ (w32 (fr + l6)) ∧ (w32 (fr + l6)) < 4) ∧ (∀ N43 : jM, N43 = (si M38 479 (w32 (fr + l6)).toNat z37) → Shp N43 → ((((iv N43 468 4) ≠ (-1 : Int)) → (Run (e + 1) mX11_items 41 [some (vR 468), some (vI st), some (vR 479), some (vI fr), some (vI mn), some (vI (jor l5 (jshl (1 : Int) l6))), some (vI (-1 : Int))] [] N43 Q)) ∧ (¬ ((iv N43 468 4) ≠ (-1 : Int)) → (Call e mX11_look [vR 468] N43 (fun r49 M47 => ∃ z46 : Int, r49 = some (vI z46) ∧ Shp M47 ∧ (Call e mX11_itemOf [vI st, vI z46] M47 (fun r54 M52 => ∃ z51 : Int, r54 = some (vI z51) ∧ Shp M52 ∧ (Run (e + 1) mX11_items 41 [some (vR 468), some (vI st), some (vR 479), some (vI fr), some (vI mn), some (vI (jor l5 (jshl (1 : Int) l6))), some (vI z51)] [] M52 Q)))))))))))))))))))))) :
  Run (e + 1) mX11_items 41 [some (vR 468), some (vI st), some (vR 479), some (vI fr), some (vI mn), some (vI l5), some (vI l6)] [] M Q := by
  refine r_aload_n dX11_items_41 rfl ?_
  refine r_get0 dX11_items_42 kF11_126 (sh_o hS kk468 (by decide)) ?_
  refine r_iconst dX11_items_45 (by decide) ?_
  refine r_icmp_ne dX11_items_46 rfl (fun c22 => ?_) (fun c22 => ?_)
  · exact r_vret dX11_items_131 rfl (h.1 c22)
  · refine r_iload dX11_items_49 rfl ?_
    refine r_iconst dX11_items_51 (by decide) ?_
    refine r_icmp_eq dX11_items_52 rfl (fun c23 => ?_) (fun c23 => ?_)
    · exact r_vret dX11_items_131 rfl ((h.2 c22).1 c23)
    · refine r_iload dX11_items_55 rfl ?_
      refine r_iload dX11_items_57 rfl ?_
      refine r_invS_i dX11_items_59 (by decide) kXn11_235 kM11_235 (by decide) (Nat.le_of_ble_eq_true rfl) rfl rfl (Nat.le_of_ble_eq_true rfl) (Nat.le_of_ble_eq_true rfl) (m_has (by omega) hS ⟨_, rfl, ?_⟩)
      refine r_if_ne dX11_items_62 rfl (fun c24 => ?_) (fun c24 => ?_)
      · exact r_vret dX11_items_131 rfl (((h.2 c22).2 c23).1 c24)
      · refine r_iload dX11_items_65 rfl ?_
        refine r_iconst dX11_items_67 (by decide) ?_
        refine r_iload dX11_items_68 rfl ?_
        refine r_ishl dX11_items_70 ?_
        refine r_ior dX11_items_71 ?_
        refine r_istore (ls2 := [some (vR 468), some (vI st), some (vR 479), some (vI fr), some (vI mn), some (vI (jor l5 (jshl (1 : Int) l6))), some (vI l6)]) dX11_items_72 (Nat.le_of_ble_eq_true rfl) rfl ?_
        refine r_aload_n dX11_items_74 rfl ?_
        refine r_dupR dX11_items_75 ?_
        refine r_get0 dX11_items_76 kF11_119 (sh_o hS kk468 (by decide)) ?_
        refine r_iconst dX11_items_79 (by decide) ?_
        refine r_iadd dX11_items_80 ?_
        refine r_put0 dX11_items_81 kF11_119 (sh_o hS kk468 (by decide)) (Or.inl rfl) ?_
        have K57 : ∀ N25 : jM, N25 = (si M 468 3 (w32 ((iv M 468 3) + (1 : Int)))) → Run (e + 1) mX11_items 84 [some (vR 468), some (vI st), some (vR 479), some (vI fr), some (vI mn), some (vI (jor l5 (jshl (1 : Int) l6))), some (vI l6)] [] N25 Q := by
          intro N25 hN56
          have sN26 : Shp N25 := by rw [hN56]; exact hS
          refine r_aload_n dX11_items_84 rfl ?_
          refine r_iload_n dX11_items_85 rfl ?_
          refine r_iload dX11_items_86 rfl ?_
          refine r_iadd dX11_items_88 ?_
          refine r_aload_n dX11_items_89 rfl ?_
          refine r_iload_n dX11_items_90 rfl ?_
          refine r_iload dX11_items_91 rfl ?_
          refine r_invS_i dX11_items_93 (by decide) kXn11_239 kM11_239 (by decide) (Nat.le_of_ble_eq_true rfl) rfl rfl (Nat.le_of_ble_eq_true rfl) (Nat.le_of_ble_eq_true rfl) (Call.mono ((((h.2 c22).2 c23).2 c24) N25 hN56 sN26) (Nat.le_refl _) ?_)
          rintro _ M28 ⟨z27, rfl, s31, h29⟩
          refine ⟨_, rfl, ?_⟩
          refine r_iload_n dX11_items_96 rfl ?_
          refine r_iload dX11_items_97 rfl ?_
          refine r_invS_i dX11_items_99 (by decide) kXn11_242 kM11_242 (by decide) (Nat.le_of_ble_eq_true rfl) rfl rfl (Nat.le_of_ble_eq_true rfl) (Nat.le_of_ble_eq_true rfl) (Call.mono h29 (Nat.le_refl _) ?_)
          rintro _ M33 ⟨z32, rfl, s36, h34⟩
          refine ⟨_, rfl, ?_⟩
          refine r_invV_i dX11_items_102 kM11_245 (by decide) (Nat.le_of_ble_eq_true rfl) rfl rfl (Nat.le_of_ble_eq_true rfl) (Nat.le_of_ble_eq_true rfl) (sh_o s36 kk468 (by decide)) (Call.mono h34 (Nat.le_refl _) ?_)
          rintro _ M38 ⟨z37, rfl, s41, h39⟩
          refine ⟨_, rfl, ?_⟩
          have ob42 := h39.1
          refine r_iastore dX11_items_105 ⟨jro_ix (sh_r s41 kk479 (by decide)) ob42, (by decide)⟩ ?_
          have K59 : ∀ N43 : jM, N43 = (si M38 479 (w32 (fr + l6)).toNat z37) → Run (e + 1) mX11_items 106 [some (vR 468), some (vI st), some (vR 479), some (vI fr), some (vI mn), some (vI (jor l5 (jshl (1 : Int) l6))), some (vI l6)] [] N43 Q := by
            intro N43 hN58
            have sN44 : Shp N43 := by rw [hN58]; exact s41
            refine r_aload_n dX11_items_106 rfl ?_
            refine r_get0 dX11_items_107 kF11_126 (sh_o sN44 kk468 (by decide)) ?_
            refine r_iconst dX11_items_110 (by decide) ?_
            refine r_icmp_ne dX11_items_111 rfl (fun c45 => ?_) (fun c45 => ?_)
            · refine r_iconst dX11_items_125 (by decide) ?_
              refine r_istore (ls2 := [some (vR 468), some (vI st), some (vR 479), some (vI fr), some (vI mn), some (vI (jor l5 (jshl (1 : Int) l6))), some (vI (-1 : Int))]) dX11_items_126 (Nat.le_of_ble_eq_true rfl) rfl ?_
              refine r_goto (tgt := 41) dX11_items_128 rfl ?_
              exact ((h39.2 N43 hN58 sN44).1 c45)
            · refine r_iload_n dX11_items_114 rfl ?_
              refine r_aload_n dX11_items_115 rfl ?_
              refine r_invV_i dX11_items_116 kM11_138 (by decide) (Nat.le_of_ble_eq_true rfl) rfl rfl (Nat.le_of_ble_eq_true rfl) (Nat.le_of_ble_eq_true rfl) (sh_o sN44 kk468 (by decide)) (Call.mono ((h39.2 N43 hN58 sN44).2 c45) (Nat.le_refl _) ?_)
              rintro _ M47 ⟨z46, rfl, s50, h48⟩
              refine ⟨_, rfl, ?_⟩
              refine r_invS_i dX11_items_119 (by decide) kXn11_232 kM11_232 (by decide) (Nat.le_of_ble_eq_true rfl) rfl rfl (Nat.le_of_ble_eq_true rfl) (Nat.le_of_ble_eq_true rfl) (Call.mono h48 (Nat.le_refl _) ?_)
              rintro _ M52 ⟨z51, rfl, s55, h53⟩
              refine ⟨_, rfl, ?_⟩
              refine r_goto (tgt := 126) dX11_items_122 rfl ?_
              refine r_istore (ls2 := [some (vR 468), some (vI st), some (vR 479), some (vI fr), some (vI mn), some (vI (jor l5 (jshl (1 : Int) l6))), some (vI z51)]) dX11_items_126 (Nat.le_of_ble_eq_true rfl) rfl ?_
              refine r_goto (tgt := 41) dX11_items_128 rfl ?_
              exact h53
          exact K59 _ rfl
        exact K57 _ rfl
theorem vn_items480 {e : Nat} {M : jM} {Q : Option jV → jM → Prop} {st : Int} {fr : Int} {mn : Int} (he : 6 ≤ e) (hS : Shp M)
  (h : Run (e + 1) mX11_items 3 [some (vR 468), some (vI st), some (vR 480), some (vI fr), some (vI mn), some (vI (0 : Int)), none] [] M Q) :
  Call (e + 1) mX11_items [vR 468, vI st, vR 480, vI fr, vI mn] M Q := by
  show Run (e + 1) mX11_items 0 [some (vR 468), some (vI st), some (vR 480), some (vI fr), some (vI mn), none, none] [] M Q
  refine r_iconst dX11_items_0 (by decide) ?_
  refine r_istore (ls2 := [some (vR 468), some (vI st), some (vR 480), some (vI fr), some (vI mn), some (vI (0 : Int)), none]) dX11_items_1 (Nat.le_of_ble_eq_true rfl) rfl ?_
  exact h
theorem vn_items480_3 {e : Nat} {M : jM} {Q : Option jV → jM → Prop} {st : Int} {fr : Int} {mn : Int} {l5 : Int} {l6 : Option jV}  (he : 6 ≤ e) (hS : Shp M)
  (h : ((mn ≤ l5) → (Call e mX11_look [vR 468] M (fun r5 M3 => ∃ z2 : Int, r5 = some (vI z2) ∧ Shp M3 ∧ (Call e mX11_itemOf [vI st, vI z2] M3 (fun r10 M8 => ∃ z7 : Int, r10 = some (vI z7) ∧ Shp M8 ∧ (Run (e + 1) mX11_items 41 [some (vR 468), some (vI st), some (vR 480), some (vI fr), some (vI mn), some (vI (0 : Int)), some (vI z7)] [] M8 Q)))))) ∧ (¬ (mn ≤ l5) → (Call e mX11_usual [vI st, vI l5] M (fun r15 M13 => ∃ z12 : Int, r15 = some (vI z12) ∧ Shp M13 ∧ ((0 ≤ (w32 (fr + l5)) ∧ (w32 (fr + l5)) < 24) ∧ (∀ N18 : jM, N18 = (si M13 480 (w32 (fr + l5)).toNat z12) → Shp N18 → (Run (e + 1) mX11_items 3 [some (vR 468), some (vI st), some (vR 480), some (vI fr), some (vI mn), some (vI (w32 (l5 + (1 : Int)))), l6] [] N18 Q))))))) :
  Run (e + 1) mX11_items 3 [some (vR 468), some (vI st), some (vR 480), some (vI fr), some (vI mn), some (vI l5), l6] [] M Q := by
  refine r_iload dX11_items_3 rfl ?_
  refine r_iload dX11_items_5 rfl ?_
  refine r_icmp_ge dX11_items_7 rfl (fun c1 => ?_) (fun c1 => ?_)
  · refine r_iconst dX11_items_28 (by decide) ?_
    refine r_istore (ls2 := [some (vR 468), some (vI st), some (vR 480), some (vI fr), some (vI mn), some (vI (0 : Int)), l6]) dX11_items_29 (Nat.le_of_ble_eq_true rfl) rfl ?_
    refine r_iload_n dX11_items_31 rfl ?_
    refine r_aload_n dX11_items_32 rfl ?_
    refine r_invV_i dX11_items_33 kM11_138 (by decide) (Nat.le_of_ble_eq_true rfl) rfl rfl (Nat.le_of_ble_eq_true rfl) (Nat.le_of_ble_eq_true rfl) (sh_o hS kk468 (by decide)) (Call.mono (h.1 c1) (Nat.le_refl _) ?_)
    rintro _ M3 ⟨z2, rfl, s6, h4⟩
    refine ⟨_, rfl, ?_⟩
    refine r_invS_i dX11_items_36 (by decide) kXn11_232 kM11_232 (by decide) (Nat.le_of_ble_eq_true rfl) rfl rfl (Nat.le_of_ble_eq_true rfl) (Nat.le_of_ble_eq_true rfl) (Call.mono h4 (Nat.le_refl _) ?_)
    rintro _ M8 ⟨z7, rfl, s11, h9⟩
    refine ⟨_, rfl, ?_⟩
    refine r_istore (ls2 := [some (vR 468), some (vI st), some (vR 480), some (vI fr), some (vI mn), some (vI (0 : Int)), some (vI z7)]) dX11_items_39 (Nat.le_of_ble_eq_true rfl) rfl ?_
    exact h9
  · refine r_aload_n dX11_items_10 rfl ?_
    refine r_iload_n dX11_items_11 rfl ?_
    refine r_iload dX11_items_12 rfl ?_
    refine r_iadd dX11_items_14 ?_
    refine r_iload_n dX11_items_15 rfl ?_
    refine r_iload dX11_items_16 rfl ?_
    refine r_invS_i dX11_items_18 (by decide) kXn11_228 kM11_228 (by decide) (Nat.le_of_ble_eq_true rfl) rfl rfl (Nat.le_of_ble_eq_true rfl) (Nat.le_of_ble_eq_true rfl) (Call.mono (h.2 c1) (Nat.le_refl _) ?_)
    rintro _ M13 ⟨z12, rfl, s16, h14⟩
    refine ⟨_, rfl, ?_⟩
    have ob17 := h14.1
    refine r_iastore dX11_items_21 ⟨jro_ix (sh_r s16 kk480 (by decide)) ob17, (by decide)⟩ ?_
    have K21 : ∀ N18 : jM, N18 = (si M13 480 (w32 (fr + l5)).toNat z12) → Run (e + 1) mX11_items 22 [some (vR 468), some (vI st), some (vR 480), some (vI fr), some (vI mn), some (vI l5), l6] [] N18 Q := by
      intro N18 hN20
      have sN19 : Shp N18 := by rw [hN20]; exact s16
      refine r_iinc (ls2 := [some (vR 468), some (vI st), some (vR 480), some (vI fr), some (vI mn), some (vI (w32 (l5 + (1 : Int)))), l6]) dX11_items_22 rfl rfl ?_
      refine r_goto (tgt := 3) dX11_items_25 rfl ?_
      exact (h14.2 N18 hN20 sN19)
    exact K21 _ rfl
theorem vn_items480_41 {e : Nat} {M : jM} {Q : Option jV → jM → Prop} {st : Int} {fr : Int} {mn : Int} {l5 : Int} {l6 : Int}  (he : 6 ≤ e) (hS : Shp M)
  (h : (((iv M 468 4) ≠ (-1 : Int)) → (Q none M)) ∧ (¬ ((iv M 468 4) ≠ (-1 : Int)) → (((l6 = (-1 : Int)) → (Q none M)) ∧ (¬ (l6 = (-1 : Int)) → ((((fHas l5 l6) ≠ (0 : Int)) → (Q none M)) ∧ (¬ ((fHas l5 l6) ≠ (0 : Int)) → (∀ N25 : jM, N25 = (si M 468 3 (w32 ((iv M 468 3) + (1 : Int)))) → Shp N25 → (Call e mX11_lowest [vI st, vI l6] N25 (fun r30 M28 => ∃ z27 : Int, r30 = some (vI z27) ∧ Shp M28 ∧ (Call e mX11_highest [vI st, vI l6] M28 (fun r35 M33 => ∃ z32 : Int, r35 = some (vI z32) ∧ Shp M33 ∧ (Call e mX11_number [vR 468, vI z27, vI z32] M33 (fun r40 M38 => ∃ z37 : Int, r40 = some (vI z37) ∧ Shp M38 ∧ ((0 ≤ (w32 (fr + l6)) ∧ (w32 (fr + l6)) < 24) ∧ (∀ N43 : jM, N43 = (si M38 480 (w32 (fr + l6)).toNat z37) → Shp N43 → ((((iv N43 468 4) ≠ (-1 : Int)) → (Run (e + 1) mX11_items 41 [some (vR 468), some (vI st), some (vR 480), some (vI fr), some (vI mn), some (vI (jor l5 (jshl (1 : Int) l6))), some (vI (-1 : Int))] [] N43 Q)) ∧ (¬ ((iv N43 468 4) ≠ (-1 : Int)) → (Call e mX11_look [vR 468] N43 (fun r49 M47 => ∃ z46 : Int, r49 = some (vI z46) ∧ Shp M47 ∧ (Call e mX11_itemOf [vI st, vI z46] M47 (fun r54 M52 => ∃ z51 : Int, r54 = some (vI z51) ∧ Shp M52 ∧ (Run (e + 1) mX11_items 41 [some (vR 468), some (vI st), some (vR 480), some (vI fr), some (vI mn), some (vI (jor l5 (jshl (1 : Int) l6))), some (vI z51)] [] M52 Q)))))))))))))))))))))) :
  Run (e + 1) mX11_items 41 [some (vR 468), some (vI st), some (vR 480), some (vI fr), some (vI mn), some (vI l5), some (vI l6)] [] M Q := by
  refine r_aload_n dX11_items_41 rfl ?_
  refine r_get0 dX11_items_42 kF11_126 (sh_o hS kk468 (by decide)) ?_
  refine r_iconst dX11_items_45 (by decide) ?_
  refine r_icmp_ne dX11_items_46 rfl (fun c22 => ?_) (fun c22 => ?_)
  · exact r_vret dX11_items_131 rfl (h.1 c22)
  · refine r_iload dX11_items_49 rfl ?_
    refine r_iconst dX11_items_51 (by decide) ?_
    refine r_icmp_eq dX11_items_52 rfl (fun c23 => ?_) (fun c23 => ?_)
    · exact r_vret dX11_items_131 rfl ((h.2 c22).1 c23)
    · refine r_iload dX11_items_55 rfl ?_
      refine r_iload dX11_items_57 rfl ?_
      refine r_invS_i dX11_items_59 (by decide) kXn11_235 kM11_235 (by decide) (Nat.le_of_ble_eq_true rfl) rfl rfl (Nat.le_of_ble_eq_true rfl) (Nat.le_of_ble_eq_true rfl) (m_has (by omega) hS ⟨_, rfl, ?_⟩)
      refine r_if_ne dX11_items_62 rfl (fun c24 => ?_) (fun c24 => ?_)
      · exact r_vret dX11_items_131 rfl (((h.2 c22).2 c23).1 c24)
      · refine r_iload dX11_items_65 rfl ?_
        refine r_iconst dX11_items_67 (by decide) ?_
        refine r_iload dX11_items_68 rfl ?_
        refine r_ishl dX11_items_70 ?_
        refine r_ior dX11_items_71 ?_
        refine r_istore (ls2 := [some (vR 468), some (vI st), some (vR 480), some (vI fr), some (vI mn), some (vI (jor l5 (jshl (1 : Int) l6))), some (vI l6)]) dX11_items_72 (Nat.le_of_ble_eq_true rfl) rfl ?_
        refine r_aload_n dX11_items_74 rfl ?_
        refine r_dupR dX11_items_75 ?_
        refine r_get0 dX11_items_76 kF11_119 (sh_o hS kk468 (by decide)) ?_
        refine r_iconst dX11_items_79 (by decide) ?_
        refine r_iadd dX11_items_80 ?_
        refine r_put0 dX11_items_81 kF11_119 (sh_o hS kk468 (by decide)) (Or.inl rfl) ?_
        have K57 : ∀ N25 : jM, N25 = (si M 468 3 (w32 ((iv M 468 3) + (1 : Int)))) → Run (e + 1) mX11_items 84 [some (vR 468), some (vI st), some (vR 480), some (vI fr), some (vI mn), some (vI (jor l5 (jshl (1 : Int) l6))), some (vI l6)] [] N25 Q := by
          intro N25 hN56
          have sN26 : Shp N25 := by rw [hN56]; exact hS
          refine r_aload_n dX11_items_84 rfl ?_
          refine r_iload_n dX11_items_85 rfl ?_
          refine r_iload dX11_items_86 rfl ?_
          refine r_iadd dX11_items_88 ?_
          refine r_aload_n dX11_items_89 rfl ?_
          refine r_iload_n dX11_items_90 rfl ?_
          refine r_iload dX11_items_91 rfl ?_
          refine r_invS_i dX11_items_93 (by decide) kXn11_239 kM11_239 (by decide) (Nat.le_of_ble_eq_true rfl) rfl rfl (Nat.le_of_ble_eq_true rfl) (Nat.le_of_ble_eq_true rfl) (Call.mono ((((h.2 c22).2 c23).2 c24) N25 hN56 sN26) (Nat.le_refl _) ?_)
          rintro _ M28 ⟨z27, rfl, s31, h29⟩
          refine ⟨_, rfl, ?_⟩
          refine r_iload_n dX11_items_96 rfl ?_
          refine r_iload dX11_items_97 rfl ?_
          refine r_invS_i dX11_items_99 (by decide) kXn11_242 kM11_242 (by decide) (Nat.le_of_ble_eq_true rfl) rfl rfl (Nat.le_of_ble_eq_true rfl) (Nat.le_of_ble_eq_true rfl) (Call.mono h29 (Nat.le_refl _) ?_)
          rintro _ M33 ⟨z32, rfl, s36, h34⟩
          refine ⟨_, rfl, ?_⟩
          refine r_invV_i dX11_items_102 kM11_245 (by decide) (Nat.le_of_ble_eq_true rfl) rfl rfl (Nat.le_of_ble_eq_true rfl) (Nat.le_of_ble_eq_true rfl) (sh_o s36 kk468 (by decide)) (Call.mono h34 (Nat.le_refl _) ?_)
          rintro _ M38 ⟨z37, rfl, s41, h39⟩
          refine ⟨_, rfl, ?_⟩
          have ob42 := h39.1
          refine r_iastore dX11_items_105 ⟨jro_ix (sh_r s41 kk480 (by decide)) ob42, (by decide)⟩ ?_
          have K59 : ∀ N43 : jM, N43 = (si M38 480 (w32 (fr + l6)).toNat z37) → Run (e + 1) mX11_items 106 [some (vR 468), some (vI st), some (vR 480), some (vI fr), some (vI mn), some (vI (jor l5 (jshl (1 : Int) l6))), some (vI l6)] [] N43 Q := by
            intro N43 hN58
            have sN44 : Shp N43 := by rw [hN58]; exact s41
            refine r_aload_n dX11_items_106 rfl ?_
            refine r_get0 dX11_items_107 kF11_126 (sh_o sN44 kk468 (by decide)) ?_
            refine r_iconst dX11_items_110 (by decide) ?_
            refine r_icmp_ne dX11_items_111 rfl (fun c45 => ?_) (fun c45 => ?_)
            · refine r_iconst dX11_items_125 (by decide) ?_
              refine r_istore (ls2 := [some (vR 468), some (vI st), some (vR 480), some (vI fr), some (vI mn), some (vI (jor l5 (jshl (1 : Int) l6))), some (vI (-1 : Int))]) dX11_items_126 (Nat.le_of_ble_eq_true rfl) rfl ?_
              refine r_goto (tgt := 41) dX11_items_128 rfl ?_
              exact ((h39.2 N43 hN58 sN44).1 c45)
            · refine r_iload_n dX11_items_114 rfl ?_
              refine r_aload_n dX11_items_115 rfl ?_
              refine r_invV_i dX11_items_116 kM11_138 (by decide) (Nat.le_of_ble_eq_true rfl) rfl rfl (Nat.le_of_ble_eq_true rfl) (Nat.le_of_ble_eq_true rfl) (sh_o sN44 kk468 (by decide)) (Call.mono ((h39.2 N43 hN58 sN44).2 c45) (Nat.le_refl _) ?_)
              rintro _ M47 ⟨z46, rfl, s50, h48⟩
              refine ⟨_, rfl, ?_⟩
              refine r_invS_i dX11_items_119 (by decide) kXn11_232 kM11_232 (by decide) (Nat.le_of_ble_eq_true rfl) rfl rfl (Nat.le_of_ble_eq_true rfl) (Nat.le_of_ble_eq_true rfl) (Call.mono h48 (Nat.le_refl _) ?_)
              rintro _ M52 ⟨z51, rfl, s55, h53⟩
              refine ⟨_, rfl, ?_⟩
              refine r_goto (tgt := 126) dX11_items_122 rfl ?_
              refine r_istore (ls2 := [some (vR 468), some (vI st), some (vR 480), some (vI fr), some (vI mn), some (vI (jor l5 (jshl (1 : Int) l6))), some (vI z51)]) dX11_items_126 (Nat.le_of_ble_eq_true rfl) rfl ?_
              refine r_goto (tgt := 41) dX11_items_128 rfl ?_
              exact h53
          exact K59 _ rfl
        exact K57 _ rfl
theorem vn_items481 {e : Nat} {M : jM} {Q : Option jV → jM → Prop} {st : Int} {fr : Int} {mn : Int} (he : 6 ≤ e) (hS : Shp M)
  (h : Run (e + 1) mX11_items 3 [some (vR 468), some (vI st), some (vR 481), some (vI fr), some (vI mn), some (vI (0 : Int)), none] [] M Q) :
  Call (e + 1) mX11_items [vR 468, vI st, vR 481, vI fr, vI mn] M Q := by
  show Run (e + 1) mX11_items 0 [some (vR 468), some (vI st), some (vR 481), some (vI fr), some (vI mn), none, none] [] M Q
  refine r_iconst dX11_items_0 (by decide) ?_
  refine r_istore (ls2 := [some (vR 468), some (vI st), some (vR 481), some (vI fr), some (vI mn), some (vI (0 : Int)), none]) dX11_items_1 (Nat.le_of_ble_eq_true rfl) rfl ?_
  exact h
theorem vn_items481_3 {e : Nat} {M : jM} {Q : Option jV → jM → Prop} {st : Int} {fr : Int} {mn : Int} {l5 : Int} {l6 : Option jV}  (he : 6 ≤ e) (hS : Shp M)
  (h : ((mn ≤ l5) → (Call e mX11_look [vR 468] M (fun r5 M3 => ∃ z2 : Int, r5 = some (vI z2) ∧ Shp M3 ∧ (Call e mX11_itemOf [vI st, vI z2] M3 (fun r10 M8 => ∃ z7 : Int, r10 = some (vI z7) ∧ Shp M8 ∧ (Run (e + 1) mX11_items 41 [some (vR 468), some (vI st), some (vR 481), some (vI fr), some (vI mn), some (vI (0 : Int)), some (vI z7)] [] M8 Q)))))) ∧ (¬ (mn ≤ l5) → (Call e mX11_usual [vI st, vI l5] M (fun r15 M13 => ∃ z12 : Int, r15 = some (vI z12) ∧ Shp M13 ∧ ((0 ≤ (w32 (fr + l5)) ∧ (w32 (fr + l5)) < 48) ∧ (∀ N18 : jM, N18 = (si M13 481 (w32 (fr + l5)).toNat z12) → Shp N18 → (Run (e + 1) mX11_items 3 [some (vR 468), some (vI st), some (vR 481), some (vI fr), some (vI mn), some (vI (w32 (l5 + (1 : Int)))), l6] [] N18 Q))))))) :
  Run (e + 1) mX11_items 3 [some (vR 468), some (vI st), some (vR 481), some (vI fr), some (vI mn), some (vI l5), l6] [] M Q := by
  refine r_iload dX11_items_3 rfl ?_
  refine r_iload dX11_items_5 rfl ?_
  refine r_icmp_ge dX11_items_7 rfl (fun c1 => ?_) (fun c1 => ?_)
  · refine r_iconst dX11_items_28 (by decide) ?_
    refine r_istore (ls2 := [some (vR 468), some (vI st), some (vR 481), some (vI fr), some (vI mn), some (vI (0 : Int)), l6]) dX11_items_29 (Nat.le_of_ble_eq_true rfl) rfl ?_
    refine r_iload_n dX11_items_31 rfl ?_
    refine r_aload_n dX11_items_32 rfl ?_
    refine r_invV_i dX11_items_33 kM11_138 (by decide) (Nat.le_of_ble_eq_true rfl) rfl rfl (Nat.le_of_ble_eq_true rfl) (Nat.le_of_ble_eq_true rfl) (sh_o hS kk468 (by decide)) (Call.mono (h.1 c1) (Nat.le_refl _) ?_)
    rintro _ M3 ⟨z2, rfl, s6, h4⟩
    refine ⟨_, rfl, ?_⟩
    refine r_invS_i dX11_items_36 (by decide) kXn11_232 kM11_232 (by decide) (Nat.le_of_ble_eq_true rfl) rfl rfl (Nat.le_of_ble_eq_true rfl) (Nat.le_of_ble_eq_true rfl) (Call.mono h4 (Nat.le_refl _) ?_)
    rintro _ M8 ⟨z7, rfl, s11, h9⟩
    refine ⟨_, rfl, ?_⟩
    refine r_istore (ls2 := [some (vR 468), some (vI st), some (vR 481), some (vI fr), some (vI mn), some (vI (0 : Int)), some (vI z7)]) dX11_items_39 (Nat.le_of_ble_eq_true rfl) rfl ?_
    exact h9
  · refine r_aload_n dX11_items_10 rfl ?_
    refine r_iload_n dX11_items_11 rfl ?_
    refine r_iload dX11_items_12 rfl ?_
    refine r_iadd dX11_items_14 ?_
    refine r_iload_n dX11_items_15 rfl ?_
    refine r_iload dX11_items_16 rfl ?_
    refine r_invS_i dX11_items_18 (by decide) kXn11_228 kM11_228 (by decide) (Nat.le_of_ble_eq_true rfl) rfl rfl (Nat.le_of_ble_eq_true rfl) (Nat.le_of_ble_eq_true rfl) (Call.mono (h.2 c1) (Nat.le_refl _) ?_)
    rintro _ M13 ⟨z12, rfl, s16, h14⟩
    refine ⟨_, rfl, ?_⟩
    have ob17 := h14.1
    refine r_iastore dX11_items_21 ⟨jro_ix (sh_r s16 kk481 (by decide)) ob17, (by decide)⟩ ?_
    have K21 : ∀ N18 : jM, N18 = (si M13 481 (w32 (fr + l5)).toNat z12) → Run (e + 1) mX11_items 22 [some (vR 468), some (vI st), some (vR 481), some (vI fr), some (vI mn), some (vI l5), l6] [] N18 Q := by
      intro N18 hN20
      have sN19 : Shp N18 := by rw [hN20]; exact s16
      refine r_iinc (ls2 := [some (vR 468), some (vI st), some (vR 481), some (vI fr), some (vI mn), some (vI (w32 (l5 + (1 : Int)))), l6]) dX11_items_22 rfl rfl ?_
      refine r_goto (tgt := 3) dX11_items_25 rfl ?_
      exact (h14.2 N18 hN20 sN19)
    exact K21 _ rfl
theorem vn_items481_41 {e : Nat} {M : jM} {Q : Option jV → jM → Prop} {st : Int} {fr : Int} {mn : Int} {l5 : Int} {l6 : Int}  (he : 6 ≤ e) (hS : Shp M)
  (h : (((iv M 468 4) ≠ (-1 : Int)) → (Q none M)) ∧ (¬ ((iv M 468 4) ≠ (-1 : Int)) → (((l6 = (-1 : Int)) → (Q none M)) ∧ (¬ (l6 = (-1 : Int)) → ((((fHas l5 l6) ≠ (0 : Int)) → (Q none M)) ∧ (¬ ((fHas l5 l6) ≠ (0 : Int)) → (∀ N25 : jM, N25 = (si M 468 3 (w32 ((iv M 468 3) + (1 : Int)))) → Shp N25 → (Call e mX11_lowest [vI st, vI l6] N25 (fun r30 M28 => ∃ z27 : Int, r30 = some (vI z27) ∧ Shp M28 ∧ (Call e mX11_highest [vI st, vI l6] M28 (fun r35 M33 => ∃ z32 : Int, r35 = some (vI z32) ∧ Shp M33 ∧ (Call e mX11_number [vR 468, vI z27, vI z32] M33 (fun r40 M38 => ∃ z37 : Int, r40 = some (vI z37) ∧ Shp M38 ∧ ((0 ≤ (w32 (fr + l6)) ∧ (w32 (fr + l6)) < 48) ∧ (∀ N43 : jM, N43 = (si M38 481 (w32 (fr + l6)).toNat z37) → Shp N43 → ((((iv N43 468 4) ≠ (-1 : Int)) → (Run (e + 1) mX11_items 41 [some (vR 468), some (vI st), some (vR 481), some (vI fr), some (vI mn), some (vI (jor l5 (jshl (1 : Int) l6))), some (vI (-1 : Int))] [] N43 Q)) ∧ (¬ ((iv N43 468 4) ≠ (-1 : Int)) → (Call e mX11_look [vR 468] N43 (fun r49 M47 => ∃ z46 : Int, r49 = some (vI z46) ∧ Shp M47 ∧ (Call e mX11_itemOf [vI st, vI z46] M47 (fun r54 M52 => ∃ z51 : Int, r54 = some (vI z51) ∧ Shp M52 ∧ (Run (e + 1) mX11_items 41 [some (vR 468), some (vI st), some (vR 481), some (vI fr), some (vI mn), some (vI (jor l5 (jshl (1 : Int) l6))), some (vI z51)] [] M52 Q)))))))))))))))))))))) :
  Run (e + 1) mX11_items 41 [some (vR 468), some (vI st), some (vR 481), some (vI fr), some (vI mn), some (vI l5), some (vI l6)] [] M Q := by
  refine r_aload_n dX11_items_41 rfl ?_
  refine r_get0 dX11_items_42 kF11_126 (sh_o hS kk468 (by decide)) ?_
  refine r_iconst dX11_items_45 (by decide) ?_
  refine r_icmp_ne dX11_items_46 rfl (fun c22 => ?_) (fun c22 => ?_)
  · exact r_vret dX11_items_131 rfl (h.1 c22)
  · refine r_iload dX11_items_49 rfl ?_
    refine r_iconst dX11_items_51 (by decide) ?_
    refine r_icmp_eq dX11_items_52 rfl (fun c23 => ?_) (fun c23 => ?_)
    · exact r_vret dX11_items_131 rfl ((h.2 c22).1 c23)
    · refine r_iload dX11_items_55 rfl ?_
      refine r_iload dX11_items_57 rfl ?_
      refine r_invS_i dX11_items_59 (by decide) kXn11_235 kM11_235 (by decide) (Nat.le_of_ble_eq_true rfl) rfl rfl (Nat.le_of_ble_eq_true rfl) (Nat.le_of_ble_eq_true rfl) (m_has (by omega) hS ⟨_, rfl, ?_⟩)
      refine r_if_ne dX11_items_62 rfl (fun c24 => ?_) (fun c24 => ?_)
      · exact r_vret dX11_items_131 rfl (((h.2 c22).2 c23).1 c24)
      · refine r_iload dX11_items_65 rfl ?_
        refine r_iconst dX11_items_67 (by decide) ?_
        refine r_iload dX11_items_68 rfl ?_
        refine r_ishl dX11_items_70 ?_
        refine r_ior dX11_items_71 ?_
        refine r_istore (ls2 := [some (vR 468), some (vI st), some (vR 481), some (vI fr), some (vI mn), some (vI (jor l5 (jshl (1 : Int) l6))), some (vI l6)]) dX11_items_72 (Nat.le_of_ble_eq_true rfl) rfl ?_
        refine r_aload_n dX11_items_74 rfl ?_
        refine r_dupR dX11_items_75 ?_
        refine r_get0 dX11_items_76 kF11_119 (sh_o hS kk468 (by decide)) ?_
        refine r_iconst dX11_items_79 (by decide) ?_
        refine r_iadd dX11_items_80 ?_
        refine r_put0 dX11_items_81 kF11_119 (sh_o hS kk468 (by decide)) (Or.inl rfl) ?_
        have K57 : ∀ N25 : jM, N25 = (si M 468 3 (w32 ((iv M 468 3) + (1 : Int)))) → Run (e + 1) mX11_items 84 [some (vR 468), some (vI st), some (vR 481), some (vI fr), some (vI mn), some (vI (jor l5 (jshl (1 : Int) l6))), some (vI l6)] [] N25 Q := by
          intro N25 hN56
          have sN26 : Shp N25 := by rw [hN56]; exact hS
          refine r_aload_n dX11_items_84 rfl ?_
          refine r_iload_n dX11_items_85 rfl ?_
          refine r_iload dX11_items_86 rfl ?_
          refine r_iadd dX11_items_88 ?_
          refine r_aload_n dX11_items_89 rfl ?_
          refine r_iload_n dX11_items_90 rfl ?_
          refine r_iload dX11_items_91 rfl ?_
          refine r_invS_i dX11_items_93 (by decide) kXn11_239 kM11_239 (by decide) (Nat.le_of_ble_eq_true rfl) rfl rfl (Nat.le_of_ble_eq_true rfl) (Nat.le_of_ble_eq_true rfl) (Call.mono ((((h.2 c22).2 c23).2 c24) N25 hN56 sN26) (Nat.le_refl _) ?_)
          rintro _ M28 ⟨z27, rfl, s31, h29⟩
          refine ⟨_, rfl, ?_⟩
          refine r_iload_n dX11_items_96 rfl ?_
          refine r_iload dX11_items_97 rfl ?_
          refine r_invS_i dX11_items_99 (by decide) kXn11_242 kM11_242 (by decide) (Nat.le_of_ble_eq_true rfl) rfl rfl (Nat.le_of_ble_eq_true rfl) (Nat.le_of_ble_eq_true rfl) (Call.mono h29 (Nat.le_refl _) ?_)
          rintro _ M33 ⟨z32, rfl, s36, h34⟩
          refine ⟨_, rfl, ?_⟩
          refine r_invV_i dX11_items_102 kM11_245 (by decide) (Nat.le_of_ble_eq_true rfl) rfl rfl (Nat.le_of_ble_eq_true rfl) (Nat.le_of_ble_eq_true rfl) (sh_o s36 kk468 (by decide)) (Call.mono h34 (Nat.le_refl _) ?_)
          rintro _ M38 ⟨z37, rfl, s41, h39⟩
          refine ⟨_, rfl, ?_⟩
          have ob42 := h39.1
          refine r_iastore dX11_items_105 ⟨jro_ix (sh_r s41 kk481 (by decide)) ob42, (by decide)⟩ ?_
          have K59 : ∀ N43 : jM, N43 = (si M38 481 (w32 (fr + l6)).toNat z37) → Run (e + 1) mX11_items 106 [some (vR 468), some (vI st), some (vR 481), some (vI fr), some (vI mn), some (vI (jor l5 (jshl (1 : Int) l6))), some (vI l6)] [] N43 Q := by
            intro N43 hN58
            have sN44 : Shp N43 := by rw [hN58]; exact s41
            refine r_aload_n dX11_items_106 rfl ?_
            refine r_get0 dX11_items_107 kF11_126 (sh_o sN44 kk468 (by decide)) ?_
            refine r_iconst dX11_items_110 (by decide) ?_
            refine r_icmp_ne dX11_items_111 rfl (fun c45 => ?_) (fun c45 => ?_)
            · refine r_iconst dX11_items_125 (by decide) ?_
              refine r_istore (ls2 := [some (vR 468), some (vI st), some (vR 481), some (vI fr), some (vI mn), some (vI (jor l5 (jshl (1 : Int) l6))), some (vI (-1 : Int))]) dX11_items_126 (Nat.le_of_ble_eq_true rfl) rfl ?_
              refine r_goto (tgt := 41) dX11_items_128 rfl ?_
              exact ((h39.2 N43 hN58 sN44).1 c45)
            · refine r_iload_n dX11_items_114 rfl ?_
              refine r_aload_n dX11_items_115 rfl ?_
              refine r_invV_i dX11_items_116 kM11_138 (by decide) (Nat.le_of_ble_eq_true rfl) rfl rfl (Nat.le_of_ble_eq_true rfl) (Nat.le_of_ble_eq_true rfl) (sh_o sN44 kk468 (by decide)) (Call.mono ((h39.2 N43 hN58 sN44).2 c45) (Nat.le_refl _) ?_)
              rintro _ M47 ⟨z46, rfl, s50, h48⟩
              refine ⟨_, rfl, ?_⟩
              refine r_invS_i dX11_items_119 (by decide) kXn11_232 kM11_232 (by decide) (Nat.le_of_ble_eq_true rfl) rfl rfl (Nat.le_of_ble_eq_true rfl) (Nat.le_of_ble_eq_true rfl) (Call.mono h48 (Nat.le_refl _) ?_)
              rintro _ M52 ⟨z51, rfl, s55, h53⟩
              refine ⟨_, rfl, ?_⟩
              refine r_goto (tgt := 126) dX11_items_122 rfl ?_
              refine r_istore (ls2 := [some (vR 468), some (vI st), some (vR 481), some (vI fr), some (vI mn), some (vI (jor l5 (jshl (1 : Int) l6))), some (vI z51)]) dX11_items_126 (Nat.le_of_ble_eq_true rfl) rfl ?_
              refine r_goto (tgt := 41) dX11_items_128 rfl ?_
              exact h53
          exact K59 _ rfl
        exact K57 _ rfl
