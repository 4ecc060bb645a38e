theorem vs_emptyPlace {e : Nat} {M : jM} {Q : Option jV → jM → Prop} {a : Nat} {mi : Int} (ha : isSt a = true) (he : 1 ≤ e) (hS : Shp M)
  (h : Run (e + 1) mX7_emptyPlace 2 [some (vR a), some (vI mi), some (vI (0 : Int))] [] M Q) :
  Call (e + 1) mX7_emptyPlace [vR a, vI mi] M Q := by
  show Run (e + 1) mX7_emptyPlace 0 [some (vR a), some (vI mi), none] [] M Q
  refine r_iconst dX7_emptyPlace_0 (by decide) ?_
  refine r_istore_n (ls2 := [some (vR a), some (vI mi), some (vI (0 : Int))]) dX7_emptyPlace_1 (Nat.le_of_ble_eq_true rfl) rfl ?_
  exact h
theorem vs_emptyPlace_2 {e : Nat} {M : jM} {Q : Option jV → jM → Prop} {a : Nat} {mi : Int} {p : Int}  (ha : isSt a = true) (he : 1 ≤ e) (hS : Shp M)
  (h : (((4 : Int) ≤ p) → (Q (some (vI (-1 : Int))) M)) ∧ (¬ ((4 : Int) ≤ p) → ((((atv M 32 (a + 1) (w32 ((w32 (mi * (4 : Int))) + p))) ≠ (-1 : Int)) → (Run (e + 1) mX7_emptyPlace 2 [some (vR a), some (vI mi), some (vI (w32 (p + (1 : Int))))] [] M Q)) ∧ (¬ ((atv M 32 (a + 1) (w32 ((w32 (mi * (4 : Int))) + p))) ≠ (-1 : Int)) → (Q (some (vI p)) M))))) :
  Run (e + 1) mX7_emptyPlace 2 [some (vR a), some (vI mi), some (vI p)] [] M Q := by
  refine r_iload_n dX7_emptyPlace_2 rfl ?_
  refine r_iconst dX7_emptyPlace_3 (by decide) ?_
  refine r_icmp_ge dX7_emptyPlace_4 rfl (fun c1 => ?_) (fun c1 => ?_)
  · refine r_iconst dX7_emptyPlace_31 (by decide) ?_
    exact r_iret dX7_emptyPlace_32 rfl (h.1 c1)
  · refine r_aload_n dX7_emptyPlace_7 rfl ?_
    refine r_getS (v := (a + 1)) dX7_emptyPlace_8 kF7_9 (st_o hS ha) (st_f0 hS ha) ?_
    refine r_iload_n dX7_emptyPlace_11 rfl ?_
    refine r_iconst dX7_emptyPlace_12 (by decide) ?_
    refine r_imul dX7_emptyPlace_13 ?_
    refine r_iload_n dX7_emptyPlace_14 rfl ?_
    refine r_iadd dX7_emptyPlace_15 ?_
    refine r_invS_i dX7_emptyPlace_16 (by decide) kXn7_50 kM7_50 (by decide) (Nat.le_of_ble_eq_true rfl) rfl rfl (Nat.le_of_ble_eq_true rfl) (Nat.le_of_ble_eq_true rfl) (c_at (by omega) (st_r1 hS ha) ⟨_, rfl, ?_⟩)
    refine r_iconst dX7_emptyPlace_19 (by decide) ?_
    refine r_icmp_ne dX7_emptyPlace_20 rfl (fun c2 => ?_) (fun c2 => ?_)
    · refine r_iinc (ls2 := [some (vR a), some (vI mi), some (vI (w32 (p + (1 : Int))))]) dX7_emptyPlace_25 rfl rfl ?_
      refine r_goto (tgt := 2) dX7_emptyPlace_28 rfl ?_
      exact ((h.2 c1).1 c2)
    · refine r_iload_n dX7_emptyPlace_23 rfl ?_
      exact r_iret dX7_emptyPlace_24 rfl ((h.2 c1).2 c2)
theorem vs_lay {e : Nat} {M : jM} {Q : Option jV → jM → Prop} {a : Nat} {mi : Int} {p : Int} {w : Int} {k : Int} {s : Int} (ha : isSt a = true) (he : 1 ≤ e) (hS : Shp M)
  (h : (((fP p) ≠ (0 : Int)) → (Q none (ptv (ptv (ptv (ptv M 32 (a + 1) (w32 ((w32 (mi * (4 : Int))) + p)) w) 32 (a + 2) (w32 ((w32 (mi * (4 : Int))) + p)) k) 32 (a + 3) (w32 ((w32 (mi * (4 : Int))) + p)) s) 32 (a + 4) (w32 ((w32 (mi * (4 : Int))) + p)) (0 : Int)))) ∧ (¬ ((fP p) ≠ (0 : Int)) → (Q none M))) :
  Call (e + 1) mX7_lay [vR a, vI mi, vI p, vI w, vI k, vI s] M Q := by
  show Run (e + 1) mX7_lay 0 [some (vR a), some (vI mi), some (vI p), some (vI w), some (vI k), some (vI s), none] [] M Q
  refine r_iload_n dX7_lay_0 rfl ?_
  refine r_invS_i dX7_lay_1 (by decide) kXn7_82 kM7_82 (by decide) (Nat.le_of_ble_eq_true rfl) rfl rfl (Nat.le_of_ble_eq_true rfl) (Nat.le_of_ble_eq_true rfl) (c_isPlace (by omega) ⟨_, rfl, ?_⟩)
  refine r_if_ne dX7_lay_4 rfl (fun c1 => ?_) (fun c1 => ?_)
  · refine r_iload_n dX7_lay_8 rfl ?_
    refine r_iconst dX7_lay_9 (by decide) ?_
    refine r_imul dX7_lay_10 ?_
    refine r_iload_n dX7_lay_11 rfl ?_
    refine r_iadd dX7_lay_12 ?_
    refine r_istore (ls2 := [some (vR a), some (vI mi), some (vI p), some (vI w), some (vI k), some (vI s), some (vI (w32 ((w32 (mi * (4 : Int))) + p)))]) dX7_lay_13 (Nat.le_of_ble_eq_true rfl) rfl ?_
    refine r_aload_n dX7_lay_15 rfl ?_
    refine r_getS (v := (a + 1)) dX7_lay_16 kF7_9 (st_o hS ha) (st_f0 hS ha) ?_
    refine r_iload dX7_lay_19 rfl ?_
    refine r_iload_n dX7_lay_21 rfl ?_
    refine r_invS_v dX7_lay_22 (by decide) kXn7_33 kM7_33 (by decide) (Nat.le_of_ble_eq_true rfl) rfl rfl (Nat.le_of_ble_eq_true rfl) (Nat.le_of_ble_eq_true rfl) (c_put (by omega) (st_r1 hS ha) (by have := st_6 ha; omega) ⟨rfl, ?_⟩)
    refine r_aload_n dX7_lay_25 rfl ?_
    refine r_getS (v := (a + 2)) dX7_lay_26 kF7_15 (st_o hS ha) (st_f1 hS ha) ?_
    refine r_iload dX7_lay_29 rfl ?_
    refine r_iload dX7_lay_31 rfl ?_
    refine r_invS_v dX7_lay_33 (by decide) kXn7_33 kM7_33 (by decide) (Nat.le_of_ble_eq_true rfl) rfl rfl (Nat.le_of_ble_eq_true rfl) (Nat.le_of_ble_eq_true rfl) (c_put (by omega) (st_r2 hS ha) (by have := st_6 ha; omega) ⟨rfl, ?_⟩)
    refine r_aload_n dX7_lay_36 rfl ?_
    refine r_getS (v := (a + 3)) dX7_lay_37 kF7_18 (st_o hS ha) (st_f2 hS ha) ?_
    refine r_iload dX7_lay_40 rfl ?_
    refine r_iload dX7_lay_42 rfl ?_
    refine r_invS_v dX7_lay_44 (by decide) kXn7_33 kM7_33 (by decide) (Nat.le_of_ble_eq_true rfl) rfl rfl (Nat.le_of_ble_eq_true rfl) (Nat.le_of_ble_eq_true rfl) (c_put (by omega) (st_r3 hS ha) (by have := st_6 ha; omega) ⟨rfl, ?_⟩)
    refine r_aload_n dX7_lay_47 rfl ?_
    refine r_getS (v := (a + 4)) dX7_lay_48 kF7_21 (st_o hS ha) (st_f3 hS ha) ?_
    refine r_iload dX7_lay_51 rfl ?_
    refine r_iconst dX7_lay_53 (by decide) ?_
    refine r_invS_v dX7_lay_54 (by decide) kXn7_33 kM7_33 (by decide) (Nat.le_of_ble_eq_true rfl) rfl rfl (Nat.le_of_ble_eq_true rfl) (Nat.le_of_ble_eq_true rfl) (c_put (by omega) (st_r4 hS ha) (by have := st_6 ha; omega) ⟨rfl, ?_⟩)
    exact r_vret dX7_lay_57 rfl (h.1 c1)
  · exact r_vret dX7_lay_7 rfl (h.2 c1)
theorem vs_giveUpAll {e : Nat} {M : jM} {Q : Option jV → jM → Prop} {a : Nat} {mi : Int} {w : Int} (ha : isSt a = true) (he : 1 ≤ e) (hS : Shp M)
  (h : Run (e + 1) mX7_giveUpAll 2 [some (vR a), some (vI mi), some (vI w), some (vI (0 : Int))] [] M Q) :
  Call (e + 1) mX7_giveUpAll [vR a, vI mi, vI w] M Q := by
  show Run (e + 1) mX7_giveUpAll 0 [some (vR a), some (vI mi), some (vI w), none] [] M Q
  refine r_iconst dX7_giveUpAll_0 (by decide) ?_
  refine r_istore_n (ls2 := [some (vR a), some (vI mi), some (vI w), some (vI (0 : Int))]) dX7_giveUpAll_1 (Nat.le_of_ble_eq_true rfl) rfl ?_
  exact h
theorem vs_giveUpAll_2 {e : Nat} {M : jM} {Q : Option jV → jM → Prop} {a : Nat} {mi : Int} {w : Int} {p : Int}  (ha : isSt a = true) (he : 1 ≤ e) (hS : Shp M)
  (h : (((4 : Int) ≤ p) → (Q none M)) ∧ (¬ ((4 : Int) ≤ p) → ((((atv M 32 (a + 1) (w32 ((w32 (mi * (4 : Int))) + p))) ≠ w) → (Run (e + 1) mX7_giveUpAll 2 [some (vR a), some (vI mi), some (vI w), some (vI (w32 (p + (1 : Int))))] [] M Q)) ∧ (¬ ((atv M 32 (a + 1) (w32 ((w32 (mi * (4 : Int))) + p))) ≠ w) → (Run (e + 1) mX7_giveUpAll 2 [some (vR a), some (vI mi), some (vI w), some (vI (w32 (p + (1 : Int))))] [] (ptv M 32 (a + 1) (w32 ((w32 (mi * (4 : Int))) + p)) (-1 : Int)) Q))))) :
  Run (e + 1) mX7_giveUpAll 2 [some (vR a), some (vI mi), some (vI w), some (vI p)] [] M Q := by
  refine r_iload_n dX7_giveUpAll_2 rfl ?_
  refine r_iconst dX7_giveUpAll_3 (by decide) ?_
  refine r_icmp_ge dX7_giveUpAll_4 rfl (fun c1 => ?_) (fun c1 => ?_)
  · exact r_vret dX7_giveUpAll_42 rfl (h.1 c1)
  · refine r_aload_n dX7_giveUpAll_7 rfl ?_
    refine r_getS (v := (a + 1)) dX7_giveUpAll_8 kF7_9 (st_o hS ha) (st_f0 hS ha) ?_
    refine r_iload_n dX7_giveUpAll_11 rfl ?_
    refine r_iconst dX7_giveUpAll_12 (by decide) ?_
    refine r_imul dX7_giveUpAll_13 ?_
    refine r_iload_n dX7_giveUpAll_14 rfl ?_
    refine r_iadd dX7_giveUpAll_15 ?_
    refine r_invS_i dX7_giveUpAll_16 (by decide) kXn7_50 kM7_50 (by decide) (Nat.le_of_ble_eq_true rfl) rfl rfl (Nat.le_of_ble_eq_true rfl) (Nat.le_of_ble_eq_true rfl) (c_at (by omega) (st_r1 hS ha) ⟨_, rfl, ?_⟩)
    refine r_iload_n dX7_giveUpAll_19 rfl ?_
    refine r_icmp_ne dX7_giveUpAll_20 rfl (fun c2 => ?_) (fun c2 => ?_)
    · refine r_iinc (ls2 := [some (vR a), some (vI mi), some (vI w), some (vI (w32 (p + (1 : Int))))]) dX7_giveUpAll_36 rfl rfl ?_
      refine r_goto (tgt := 2) dX7_giveUpAll_39 rfl ?_
      exact ((h.2 c1).1 c2)
    · refine r_aload_n dX7_giveUpAll_23 rfl ?_
      refine r_getS (v := (a + 1)) dX7_giveUpAll_24 kF7_9 (st_o hS ha) (st_f0 hS ha) ?_
      refine r_iload_n dX7_giveUpAll_27 rfl ?_
      refine r_iconst dX7_giveUpAll_28 (by decide) ?_
      refine r_imul dX7_giveUpAll_29 ?_
      refine r_iload_n dX7_giveUpAll_30 rfl ?_
      refine r_iadd dX7_giveUpAll_31 ?_
      refine r_iconst dX7_giveUpAll_32 (by decide) ?_
      refine r_invS_v dX7_giveUpAll_33 (by decide) kXn7_33 kM7_33 (by decide) (Nat.le_of_ble_eq_true rfl) rfl rfl (Nat.le_of_ble_eq_true rfl) (Nat.le_of_ble_eq_true rfl) (c_put (by omega) (st_r1 hS ha) (by have := st_6 ha; omega) ⟨rfl, ?_⟩)
      refine r_iinc (ls2 := [some (vR a), some (vI mi), some (vI w), some (vI (w32 (p + (1 : Int))))]) dX7_giveUpAll_36 rfl rfl ?_
      refine r_goto (tgt := 2) dX7_giveUpAll_39 rfl ?_
      exact ((h.2 c1).2 c2)
theorem vs_renewTunesOf {e : Nat} {M : jM} {Q : Option jV → jM → Prop} {a : Nat} {w : Int} (ha : isSt a = true) (he : 1 ≤ e) (hS : Shp M)
  (h : Run (e + 1) mX7_renewTunesOf 2 [some (vR a), some (vI w), some (vI (0 : Int))] [] M Q) :
  Call (e + 1) mX7_renewTunesOf [vR a, vI w] M Q := by
  show Run (e + 1) mX7_renewTunesOf 0 [some (vR a), some (vI w), none] [] M Q
  refine r_iconst dX7_renewTunesOf_0 (by decide) ?_
  refine r_istore_n (ls2 := [some (vR a), some (vI w), some (vI (0 : Int))]) dX7_renewTunesOf_1 (Nat.le_of_ble_eq_true rfl) rfl ?_
  exact h
theorem vs_renewTunesOf_2 {e : Nat} {M : jM} {Q : Option jV → jM → Prop} {a : Nat} {w : Int} {i : Int}  (ha : isSt a = true) (he : 1 ≤ e) (hS : Shp M)
  (h : (((32 : Int) ≤ i) → (Q none M)) ∧ (¬ ((32 : Int) ≤ i) → ((((atv M 32 (a + 1) i) ≠ w) → (Run (e + 1) mX7_renewTunesOf 2 [some (vR a), some (vI w), some (vI (w32 (i + (1 : Int))))] [] M Q)) ∧ (¬ ((atv M 32 (a + 1) i) ≠ w) → ((((atv M 32 (a + 2) i) ≠ (2 : Int)) → (Run (e + 1) mX7_renewTunesOf 2 [some (vR a), some (vI w), some (vI (w32 (i + (1 : Int))))] [] M Q)) ∧ (¬ ((atv M 32 (a + 2) i) ≠ (2 : Int)) → (Run (e + 1) mX7_renewTunesOf 2 [some (vR a), some (vI w), some (vI (w32 (i + (1 : Int))))] [] (ptv M 32 (a + 4) i (0 : Int)) Q))))))) :
  Run (e + 1) mX7_renewTunesOf 2 [some (vR a), some (vI w), some (vI i)] [] M Q := by
  refine r_iload_n dX7_renewTunesOf_2 rfl ?_
  refine r_bipush dX7_renewTunesOf_3 (by decide) ?_
  refine r_icmp_ge dX7_renewTunesOf_5 rfl (fun c1 => ?_) (fun c1 => ?_)
  · exact r_vret dX7_renewTunesOf_47 rfl (h.1 c1)
  · refine r_aload_n dX7_renewTunesOf_8 rfl ?_
    refine r_getS (v := (a + 1)) dX7_renewTunesOf_9 kF7_9 (st_o hS ha) (st_f0 hS ha) ?_
    refine r_iload_n dX7_renewTunesOf_12 rfl ?_
    refine r_invS_i dX7_renewTunesOf_13 (by decide) kXn7_50 kM7_50 (by decide) (Nat.le_of_ble_eq_true rfl) rfl rfl (Nat.le_of_ble_eq_true rfl) (Nat.le_of_ble_eq_true rfl) (c_at (by omega) (st_r1 hS ha) ⟨_, rfl, ?_⟩)
    refine r_iload_n dX7_renewTunesOf_16 rfl ?_
    refine r_icmp_ne dX7_renewTunesOf_17 rfl (fun c2 => ?_) (fun c2 => ?_)
    · refine r_iinc (ls2 := [some (vR a), some (vI w), some (vI (w32 (i + (1 : Int))))]) dX7_renewTunesOf_41 rfl rfl ?_
      refine r_goto (tgt := 2) dX7_renewTunesOf_44 rfl ?_
      exact ((h.2 c1).1 c2)
    · refine r_aload_n dX7_renewTunesOf_20 rfl ?_
      refine r_getS (v := (a + 2)) dX7_renewTunesOf_21 kF7_15 (st_o hS ha) (st_f1 hS ha) ?_
      refine r_iload_n dX7_renewTunesOf_24 rfl ?_
      refine r_invS_i dX7_renewTunesOf_25 (by decide) kXn7_50 kM7_50 (by decide) (Nat.le_of_ble_eq_true rfl) rfl rfl (Nat.le_of_ble_eq_true rfl) (Nat.le_of_ble_eq_true rfl) (c_at (by omega) (st_r2 hS ha) ⟨_, rfl, ?_⟩)
      refine r_iconst dX7_renewTunesOf_28 (by decide) ?_
      refine r_icmp_ne dX7_renewTunesOf_29 rfl (fun c3 => ?_) (fun c3 => ?_)
      · refine r_iinc (ls2 := [some (vR a), some (vI w), some (vI (w32 (i + (1 : Int))))]) dX7_renewTunesOf_41 rfl rfl ?_
        refine r_goto (tgt := 2) dX7_renewTunesOf_44 rfl ?_
        exact (((h.2 c1).2 c2).1 c3)
      · refine r_aload_n dX7_renewTunesOf_32 rfl ?_
        refine r_getS (v := (a + 4)) dX7_renewTunesOf_33 kF7_21 (st_o hS ha) (st_f3 hS ha) ?_
        refine r_iload_n dX7_renewTunesOf_36 rfl ?_
        refine r_iconst dX7_renewTunesOf_37 (by decide) ?_
        refine r_invS_v dX7_renewTunesOf_38 (by decide) kXn7_33 kM7_33 (by decide) (Nat.le_of_ble_eq_true rfl) rfl rfl (Nat.le_of_ble_eq_true rfl) (Nat.le_of_ble_eq_true rfl) (c_put (by omega) (st_r4 hS ha) (by have := st_6 ha; omega) ⟨rfl, ?_⟩)
        refine r_iinc (ls2 := [some (vR a), some (vI w), some (vI (w32 (i + (1 : Int))))]) dX7_renewTunesOf_41 rfl rfl ?_
        refine r_goto (tgt := 2) dX7_renewTunesOf_44 rfl ?_
        exact (((h.2 c1).2 c2).2 c3)
theorem vs_passHour {e : Nat} {M : jM} {Q : Option jV → jM → Prop} {a : Nat} (ha : isSt a = true) (he : 1 ≤ e) (hS : Shp M)
  (h : Run (e + 1) mX7_passHour 2 [some (vR a), some (vI (0 : Int))] [] M Q) :
  Call (e + 1) mX7_passHour [vR a] M Q := by
  show Run (e + 1) mX7_passHour 0 [some (vR a), none] [] M Q
  refine r_iconst dX7_passHour_0 (by decide) ?_
  refine r_istore_n (ls2 := [some (vR a), some (vI (0 : Int))]) dX7_passHour_1 (Nat.le_of_ble_eq_true rfl) rfl ?_
  exact h
theorem vs_passHour_2 {e : Nat} {M : jM} {Q : Option jV → jM → Prop} {a : Nat} {i : Int}  (ha : isSt a = true) (he : 1 ≤ e) (hS : Shp M)
  (h : (((32 : Int) ≤ i) → (Q none (si M a 9 (w32 ((iv M a 9) + (1 : Int)))))) ∧ (¬ ((32 : Int) ≤ i) → ((((atv M 32 (a + 5) i) ≠ (0 : Int)) → ((((99 : Int) ≤ (atv M 32 (a + 4) i)) → (Run (e + 1) mX7_passHour 2 [some (vR a), some (vI (w32 (i + (1 : Int))))] [] M Q)) ∧ (¬ ((99 : Int) ≤ (atv M 32 (a + 4) i)) → (Run (e + 1) mX7_passHour 2 [some (vR a), some (vI (w32 (i + (1 : Int))))] [] (ptv M 32 (a + 4) i (w32 ((atv M 32 (a + 4) i) + (1 : Int)))) Q)))) ∧ (¬ ((atv M 32 (a + 5) i) ≠ (0 : Int)) → (Run (e + 1) mX7_passHour 2 [some (vR a), some (vI (w32 (i + (1 : Int))))] [] (ptv M 32 (a + 1) i (-1 : Int)) Q))))) :
  Run (e + 1) mX7_passHour 2 [some (vR a), some (vI i)] [] M Q := by
  refine r_iload_n dX7_passHour_2 rfl ?_
  refine r_bipush dX7_passHour_3 (by decide) ?_
  refine r_icmp_ge dX7_passHour_5 rfl (fun c1 => ?_) (fun c1 => ?_)
  · refine r_aload_n dX7_passHour_68 rfl ?_
    refine r_dupR dX7_passHour_69 ?_
    refine r_get0 dX7_passHour_70 kF7_75 (st_o hS ha) ?_
    refine r_iconst dX7_passHour_73 (by decide) ?_
    refine r_iadd dX7_passHour_74 ?_
    refine r_put0 dX7_passHour_75 kF7_75 (st_o hS ha) (Or.inl rfl) ?_
    exact r_vret dX7_passHour_78 rfl (h.1 c1)
  · refine r_aload_n dX7_passHour_8 rfl ?_
    refine r_getS (v := (a + 5)) dX7_passHour_9 kF7_24 (st_o hS ha) (st_f4 hS ha) ?_
    refine r_iload_n dX7_passHour_12 rfl ?_
    refine r_invS_i dX7_passHour_13 (by decide) kXn7_50 kM7_50 (by decide) (Nat.le_of_ble_eq_true rfl) rfl rfl (Nat.le_of_ble_eq_true rfl) (Nat.le_of_ble_eq_true rfl) (c_at (by omega) (st_r5 hS ha) ⟨_, rfl, ?_⟩)
    refine r_if_ne dX7_passHour_16 rfl (fun c2 => ?_) (fun c2 => ?_)
    · refine r_aload_n dX7_passHour_31 rfl ?_
      refine r_getS (v := (a + 4)) dX7_passHour_32 kF7_21 (st_o hS ha) (st_f3 hS ha) ?_
      refine r_iload_n dX7_passHour_35 rfl ?_
      refine r_invS_i dX7_passHour_36 (by decide) kXn7_50 kM7_50 (by decide) (Nat.le_of_ble_eq_true rfl) rfl rfl (Nat.le_of_ble_eq_true rfl) (Nat.le_of_ble_eq_true rfl) (c_at (by omega) (st_r4 hS ha) ⟨_, rfl, ?_⟩)
      refine r_bipush dX7_passHour_39 (by decide) ?_
      refine r_icmp_ge dX7_passHour_41 rfl (fun c3 => ?_) (fun c3 => ?_)
      · refine r_iinc (ls2 := [some (vR a), some (vI (w32 (i + (1 : Int))))]) dX7_passHour_62 rfl rfl ?_
        refine r_goto (tgt := 2) dX7_passHour_65 rfl ?_
        exact (((h.2 c1).1 c2).1 c3)
      · refine r_aload_n dX7_passHour_44 rfl ?_
        refine r_getS (v := (a + 4)) dX7_passHour_45 kF7_21 (st_o hS ha) (st_f3 hS ha) ?_
        refine r_iload_n dX7_passHour_48 rfl ?_
        refine r_aload_n dX7_passHour_49 rfl ?_
        refine r_getS (v := (a + 4)) dX7_passHour_50 kF7_21 (st_o hS ha) (st_f3 hS ha) ?_
        refine r_iload_n dX7_passHour_53 rfl ?_
        refine r_invS_i dX7_passHour_54 (by decide) kXn7_50 kM7_50 (by decide) (Nat.le_of_ble_eq_true rfl) rfl rfl (Nat.le_of_ble_eq_true rfl) (Nat.le_of_ble_eq_true rfl) (c_at (by omega) (st_r4 hS ha) ⟨_, rfl, ?_⟩)
        refine r_iconst dX7_passHour_57 (by decide) ?_
        refine r_iadd dX7_passHour_58 ?_
        refine r_invS_v dX7_passHour_59 (by decide) kXn7_33 kM7_33 (by decide) (Nat.le_of_ble_eq_true rfl) rfl rfl (Nat.le_of_ble_eq_true rfl) (Nat.le_of_ble_eq_true rfl) (c_put (by omega) (st_r4 hS ha) (by have := st_6 ha; omega) ⟨rfl, ?_⟩)
        refine r_iinc (ls2 := [some (vR a), some (vI (w32 (i + (1 : Int))))]) dX7_passHour_62 rfl rfl ?_
        refine r_goto (tgt := 2) dX7_passHour_65 rfl ?_
        exact (((h.2 c1).1 c2).2 c3)
    · refine r_aload_n dX7_passHour_19 rfl ?_
      refine r_getS (v := (a + 1)) dX7_passHour_20 kF7_9 (st_o hS ha) (st_f0 hS ha) ?_
      refine r_iload_n dX7_passHour_23 rfl ?_
      refine r_iconst dX7_passHour_24 (by decide) ?_
      refine r_invS_v dX7_passHour_25 (by decide) kXn7_33 kM7_33 (by decide) (Nat.le_of_ble_eq_true rfl) rfl rfl (Nat.le_of_ble_eq_true rfl) (Nat.le_of_ble_eq_true rfl) (c_put (by omega) (st_r1 hS ha) (by have := st_6 ha; omega) ⟨rfl, ?_⟩)
      refine r_goto (tgt := 62) dX7_passHour_28 rfl ?_
      refine r_iinc (ls2 := [some (vR a), some (vI (w32 (i + (1 : Int))))]) dX7_passHour_62 rfl rfl ?_
      refine r_goto (tgt := 2) dX7_passHour_65 rfl ?_
      exact ((h.2 c1).2 c2)
theorem vs_logLength {e : Nat} {M : jM} {Q : Option jV → jM → Prop} {a : Nat} (ha : isSt a = true) (he : 1 ≤ e) (hS : Shp M)
  (h : Q (some (vI (if (60 : Int) ≤ (iv M a 9) then (60 : Int) else iv M a 9))) M) :
  Call (e + 1) mX7_logLength [vR a] M Q := by
  show Run (e + 1) mX7_logLength 0 [some (vR a)] [] M Q
  refine r_aload_n dX7_logLength_0 rfl ?_
  refine r_get0 dX7_logLength_1 kF7_75 (st_o hS ha) ?_
  refine r_bipush dX7_logLength_4 (by decide) ?_
  have K1 : Run (e + 1) mX7_logLength 18 [some (vR a)] [vI (if (60 : Int) ≤ (iv M a 9) then (60 : Int) else iv M a 9)] M Q := by
    exact r_iret dX7_logLength_18 rfl h
  refine r_icmp_ge dX7_logLength_6 rfl (fun q2 => ?_) (fun q2 => ?_)
  · rw [if_pos q2] at K1
    refine r_bipush dX7_logLength_16 (by decide) ?_
    exact K1
  · rw [if_neg q2] at K1
    refine r_aload_n dX7_logLength_9 rfl ?_
    refine r_get0 dX7_logLength_10 kF7_75 (st_o hS ha) ?_
    refine r_goto (tgt := 18) dX7_logLength_13 rfl ?_
    exact K1
theorem vs_logged {e : Nat} {M : jM} {Q : Option jV → jM → Prop} {a : Nat} {i : Int} {w : Int} (ha : isSt a = true) (he : 1 ≤ e) (hS : Shp M)
  (h : Q (some (vI (jand (jshr (atv M 60 (a + 7) (jrem (w32 ((iv M a 9) - i)) (60 : Int))) (w32 ((8 : Int) * w))) (255 : Int)))) M) :
  Call (e + 1) mX7_logged [vR a, vI i, vI w] M Q := by
  show Run (e + 1) mX7_logged 0 [some (vR a), some (vI i), some (vI w)] [] M Q
  refine r_aload_n dX7_logged_0 rfl ?_
  refine r_getS (v := (a + 7)) dX7_logged_1 kF7_30 (st_o hS ha) (st_f6 hS ha) ?_
  refine r_aload_n dX7_logged_4 rfl ?_
  refine r_get0 dX7_logged_5 kF7_75 (st_o hS ha) ?_
  refine r_iload_n dX7_logged_8 rfl ?_
  refine r_isub dX7_logged_9 ?_
  refine r_bipush dX7_logged_10 (by decide) ?_
  refine r_irem dX7_logged_12 (by decide) ?_
  refine r_invS_i dX7_logged_13 (by decide) kXn7_50 kM7_50 (by decide) (Nat.le_of_ble_eq_true rfl) rfl rfl (Nat.le_of_ble_eq_true rfl) (Nat.le_of_ble_eq_true rfl) (c_at (by omega) (st_r7 hS ha) ⟨_, rfl, ?_⟩)
  refine r_bipush dX7_logged_16 (by decide) ?_
  refine r_iload_n dX7_logged_18 rfl ?_
  refine r_imul dX7_logged_19 ?_
  refine r_ishr dX7_logged_20 ?_
  refine r_sipush dX7_logged_21 (by decide) ?_
  refine r_iand dX7_logged_24 ?_
  exact r_iret dX7_logged_25 rfl h
theorem vs_weight {e : Nat} {M : jM} {Q : Option jV → jM → Prop} {a : Nat} {p : Int} (ha : isSt a = true) (he : 1 ≤ e) (hS : Shp M)
  (h : Run (e + 1) mX7_weight 17 [some (vR a), some (vI p), some (vL (w64 ((1000 : Int) * (atv M 8 (a + 6) p)))), none, some (vI (0 : Int))] [] M Q) :
  Call (e + 1) mX7_weight [vR a, vI p] M Q := by
  show Run (e + 1) mX7_weight 0 [some (vR a), some (vI p), none, none, none] [] M Q
  refine r_ldc2 dX7_weight_0 kL7_90 ?_
  refine r_aload_n dX7_weight_3 rfl ?_
  refine r_getS (v := (a + 6)) dX7_weight_4 kF7_27 (st_o hS ha) (st_f5 hS ha) ?_
  refine r_iload_n dX7_weight_7 rfl ?_
  refine r_invS_i dX7_weight_8 (by decide) kXn7_50 kM7_50 (by decide) (Nat.le_of_ble_eq_true rfl) rfl rfl (Nat.le_of_ble_eq_true rfl) (Nat.le_of_ble_eq_true rfl) (c_at (by omega) (st_r6 hS ha) ⟨_, rfl, ?_⟩)
  refine r_i2l dX7_weight_11 ?_
  refine r_lmul dX7_weight_12 ?_
  refine r_lstore_n (ls2 := [some (vR a), some (vI p), some (vL (w64 ((1000 : Int) * (atv M 8 (a + 6) p)))), none, none]) dX7_weight_13 (Nat.le_of_ble_eq_true rfl) rfl ?_
  refine r_iconst dX7_weight_14 (by decide) ?_
  refine r_istore (ls2 := [some (vR a), some (vI p), some (vL (w64 ((1000 : Int) * (atv M 8 (a + 6) p)))), none, some (vI (0 : Int))]) dX7_weight_15 (Nat.le_of_ble_eq_true rfl) rfl ?_
  exact h
theorem vs_weight_17 {e : Nat} {M : jM} {Q : Option jV → jM → Prop} {a : Nat} {p : Int} {s : Int} {i : Int}  (ha : isSt a = true) (he : 1 ≤ e) (hS : Shp M)
  (h : (((32 : Int) ≤ i) → (Q (some (vL s)) M)) ∧ (¬ ((32 : Int) ≤ i) → ((((atv M 32 (a + 1) i) ≠ p) → (Run (e + 1) mX7_weight 17 [some (vR a), some (vI p), some (vL s), none, some (vI (w32 (i + (1 : Int))))] [] M Q)) ∧ (¬ ((atv M 32 (a + 1) i) ≠ p) → ((0 ≤ (w64 (s + (atv M 32 (a + 5) i))) ∧ (w64 (s + (atv M 32 (a + 5) i))) < 4611686018427387904) ∧ (Run (e + 1) mX7_weight 17 [some (vR a), some (vI p), some (vL (rnd (w64 (s + (atv M 32 (a + 5) i))))), none, some (vI (w32 (i + (1 : Int))))] [] M Q)))))) :
  Run (e + 1) mX7_weight 17 [some (vR a), some (vI p), some (vL s), none, some (vI i)] [] M Q := by
  refine r_iload dX7_weight_17 rfl ?_
  refine r_bipush dX7_weight_19 (by decide) ?_
  refine r_icmp_ge dX7_weight_21 rfl (fun c1 => ?_) (fun c1 => ?_)
  · refine r_lload_n dX7_weight_59 rfl ?_
    exact r_lret dX7_weight_60 rfl (h.1 c1)
  · refine r_aload_n dX7_weight_24 rfl ?_
    refine r_getS (v := (a + 1)) dX7_weight_25 kF7_9 (st_o hS ha) (st_f0 hS ha) ?_
    refine r_iload dX7_weight_28 rfl ?_
    refine r_invS_i dX7_weight_30 (by decide) kXn7_50 kM7_50 (by decide) (Nat.le_of_ble_eq_true rfl) rfl rfl (Nat.le_of_ble_eq_true rfl) (Nat.le_of_ble_eq_true rfl) (c_at (by omega) (st_r1 hS ha) ⟨_, rfl, ?_⟩)
    refine r_iload_n dX7_weight_33 rfl ?_
    refine r_icmp_ne dX7_weight_34 rfl (fun c2 => ?_) (fun c2 => ?_)
    · refine r_iinc (ls2 := [some (vR a), some (vI p), some (vL s), none, some (vI (w32 (i + (1 : Int))))]) dX7_weight_53 rfl rfl ?_
      refine r_goto (tgt := 17) dX7_weight_56 rfl ?_
      exact ((h.2 c1).1 c2)
    · refine r_lload_n dX7_weight_37 rfl ?_
      refine r_aload_n dX7_weight_38 rfl ?_
      refine r_getS (v := (a + 5)) dX7_weight_39 kF7_24 (st_o hS ha) (st_f4 hS ha) ?_
      refine r_iload dX7_weight_42 rfl ?_
      refine r_invS_i dX7_weight_44 (by decide) kXn7_50 kM7_50 (by decide) (Nat.le_of_ble_eq_true rfl) rfl rfl (Nat.le_of_ble_eq_true rfl) (Nat.le_of_ble_eq_true rfl) (c_at (by omega) (st_r5 hS ha) ⟨_, rfl, ?_⟩)
      refine r_i2l dX7_weight_47 ?_
      refine r_ladd dX7_weight_48 ?_
      refine r_invS_l dX7_weight_49 (by decide) kXn7_92 kM7_92 (by decide) (Nat.le_of_ble_eq_true rfl) rfl rfl (Nat.le_of_ble_eq_true rfl) (Nat.le_of_ble_eq_true rfl) (c_rounded (by omega) ((h.2 c1).2 c2).1 ⟨_, rfl, ?_⟩)
      refine r_lstore_n (ls2 := [some (vR a), some (vI p), some (vL (rnd (w64 (s + (atv M 32 (a + 5) i))))), none, some (vI i)]) dX7_weight_52 (Nat.le_of_ble_eq_true rfl) rfl ?_
      refine r_iinc (ls2 := [some (vR a), some (vI p), some (vL (rnd (w64 (s + (atv M 32 (a + 5) i))))), none, some (vI (w32 (i + (1 : Int))))]) dX7_weight_53 rfl rfl ?_
      refine r_goto (tgt := 17) dX7_weight_56 rfl ?_
      exact ((h.2 c1).2 c2).2
theorem vs_floats {e : Nat} {M : jM} {Q : Option jV → jM → Prop} {a : Nat} {p : Int} (ha : isSt a = true) (he : 1 ≤ e) (hS : Shp M)
  (h : Call e mX7_weight [vR a, vI p] M (fun r4 M2 => ∃ z1 : Int, r4 = some (vL z1) ∧ Shp M2 ∧ (Q (some (vI (if (0 : Int) ≤ (jcmp z1 (w64 ((10000 : Int) * (iv M2 a 7)))) then (0 : Int) else (1 : Int)))) M2))) :
  Call (e + 1) mX7_floats [vR a, vI p] M Q := by
  show Run (e + 1) mX7_floats 0 [some (vR a), some (vI p)] [] M Q
  refine r_aload_n dX7_floats_0 rfl ?_
  refine r_iload_n dX7_floats_1 rfl ?_
  refine r_invV_l dX7_floats_2 kM7_96 (by decide) (Nat.le_of_ble_eq_true rfl) rfl rfl (Nat.le_of_ble_eq_true rfl) (Nat.le_of_ble_eq_true rfl) (st_o hS ha) (Call.mono h (Nat.le_refl _) ?_)
  rintro _ M2 ⟨z1, rfl, s5, h3⟩
  refine ⟨_, rfl, ?_⟩
  refine r_ldc2 dX7_floats_5 kL7_100 ?_
  refine r_aload_n dX7_floats_8 rfl ?_
  refine r_get0 dX7_floats_9 kF7_69 (st_o s5 ha) ?_
  refine r_i2l dX7_floats_12 ?_
  refine r_lmul dX7_floats_13 ?_
  refine r_lcmp dX7_floats_14 ?_
  have K6 : Run (e + 1) mX7_floats 23 [some (vR a), some (vI p)] [vI (if (0 : Int) ≤ (jcmp z1 (w64 ((10000 : Int) * (iv M2 a 7)))) then (0 : Int) else (1 : Int))] M2 Q := by
    exact r_zret dX7_floats_23 rfl (by (repeat' split) <;> first | exact Or.inl rfl | exact Or.inr rfl) h3
  refine r_if_ge dX7_floats_15 rfl (fun q7 => ?_) (fun q7 => ?_)
  · rw [if_pos q7] at K6
    refine r_iconst dX7_floats_22 (by decide) ?_
    exact K6
  · rw [if_neg q7] at K6
    refine r_iconst dX7_floats_18 (by decide) ?_
    refine r_goto (tgt := 23) dX7_floats_19 rfl ?_
    exact K6
theorem vs_thoughtCount {e : Nat} {M : jM} {Q : Option jV → jM → Prop} {a : Nat} (ha : isSt a = true) (he : 1 ≤ e) (hS : Shp M)
  (h : Run (e + 1) mX7_thoughtCount 4 [some (vR a), some (vI (0 : Int)), some (vI (0 : Int))] [] M Q) :
  Call (e + 1) mX7_thoughtCount [vR a] M Q := by
  show Run (e + 1) mX7_thoughtCount 0 [some (vR a), none, none] [] M Q
  refine r_iconst dX7_thoughtCount_0 (by decide) ?_
  refine r_istore_n (ls2 := [some (vR a), some (vI (0 : Int)), none]) dX7_thoughtCount_1 (Nat.le_of_ble_eq_true rfl) rfl ?_
  refine r_iconst dX7_thoughtCount_2 (by decide) ?_
  refine r_istore_n (ls2 := [some (vR a), some (vI (0 : Int)), some (vI (0 : Int))]) dX7_thoughtCount_3 (Nat.le_of_ble_eq_true rfl) rfl ?_
  exact h
theorem vs_thoughtCount_4 {e : Nat} {M : jM} {Q : Option jV → jM → Prop} {a : Nat} {c : Int} {i : Int}  (ha : isSt a = true) (he : 1 ≤ e) (hS : Shp M)
  (h : (((32 : Int) ≤ i) → (Q (some (vI c)) M)) ∧ (¬ ((32 : Int) ≤ i) → (Run (e + 1) mX7_thoughtCount 4 [some (vR a), some (vI (w32 (c + (if (atv M 32 (a + 1) i) ≠ (-1 : Int) then (1 : Int) else (0 : Int))))), some (vI (w32 (i + (1 : Int))))] [] M Q))) :
  Run (e + 1) mX7_thoughtCount 4 [some (vR a), some (vI c), some (vI i)] [] M Q := by
  refine r_iload_n dX7_thoughtCount_4 rfl ?_
  refine r_bipush dX7_thoughtCount_5 (by decide) ?_
  refine r_icmp_ge dX7_thoughtCount_7 rfl (fun c1 => ?_) (fun c1 => ?_)
  · refine r_iload_n dX7_thoughtCount_36 rfl ?_
    exact r_iret dX7_thoughtCount_37 rfl (h.1 c1)
  · refine r_iload_n dX7_thoughtCount_10 rfl ?_
    refine r_aload_n dX7_thoughtCount_11 rfl ?_
    refine r_getS (v := (a + 1)) dX7_thoughtCount_12 kF7_9 (st_o hS ha) (st_f0 hS ha) ?_
    refine r_iload_n dX7_thoughtCount_15 rfl ?_
    refine r_invS_i dX7_thoughtCount_16 (by decide) kXn7_50 kM7_50 (by decide) (Nat.le_of_ble_eq_true rfl) rfl rfl (Nat.le_of_ble_eq_true rfl) (Nat.le_of_ble_eq_true rfl) (c_at (by omega) (st_r1 hS ha) ⟨_, rfl, ?_⟩)
    refine r_iconst dX7_thoughtCount_19 (by decide) ?_
    have K2 : Run (e + 1) mX7_thoughtCount 28 [some (vR a), some (vI c), some (vI i)] [vI (if (atv M 32 (a + 1) i) ≠ (-1 : Int) then (1 : Int) else (0 : Int)), vI c] M Q := by
      refine r_iadd dX7_thoughtCount_28 ?_
      refine r_istore_n (ls2 := [some (vR a), some (vI (w32 (c + (if (atv M 32 (a + 1) i) ≠ (-1 : Int) then (1 : Int) else (0 : Int))))), some (vI i)]) dX7_thoughtCount_29 (Nat.le_of_ble_eq_true rfl) rfl ?_
      refine r_iinc (ls2 := [some (vR a), some (vI (w32 (c + (if (atv M 32 (a + 1) i) ≠ (-1 : Int) then (1 : Int) else (0 : Int))))), some (vI (w32 (i + (1 : Int))))]) dX7_thoughtCount_30 rfl rfl ?_
      refine r_goto (tgt := 4) dX7_thoughtCount_33 rfl ?_
      exact (h.2 c1)
    refine r_icmp_ne dX7_thoughtCount_20 rfl (fun q3 => ?_) (fun q3 => ?_)
    · rw [if_pos q3] at K2
      refine r_iconst dX7_thoughtCount_27 (by decide) ?_
      exact K2
    · rw [if_neg q3] at K2
      refine r_iconst dX7_thoughtCount_23 (by decide) ?_
      refine r_goto (tgt := 28) dX7_thoughtCount_24 rfl ?_
      exact K2
theorem vs_thoughtsOf {e : Nat} {M : jM} {Q : Option jV → jM → Prop} {a : Nat} {p : Int} (ha : isSt a = true) (he : 1 ≤ e) (hS : Shp M)
  (h : Run (e + 1) mX7_thoughtsOf 4 [some (vR a), some (vI p), some (vI (0 : Int)), some (vI (0 : Int))] [] M Q) :
  Call (e + 1) mX7_thoughtsOf [vR a, vI p] M Q := by
  show Run (e + 1) mX7_thoughtsOf 0 [some (vR a), some (vI p), none, none] [] M Q
  refine r_iconst dX7_thoughtsOf_0 (by decide) ?_
  refine r_istore_n (ls2 := [some (vR a), some (vI p), some (vI (0 : Int)), none]) dX7_thoughtsOf_1 (Nat.le_of_ble_eq_true rfl) rfl ?_
  refine r_iconst dX7_thoughtsOf_2 (by decide) ?_
  refine r_istore_n (ls2 := [some (vR a), some (vI p), some (vI (0 : Int)), some (vI (0 : Int))]) dX7_thoughtsOf_3 (Nat.le_of_ble_eq_true rfl) rfl ?_
  exact h
theorem vs_thoughtsOf_4 {e : Nat} {M : jM} {Q : Option jV → jM → Prop} {a : Nat} {p : Int} {c : Int} {i : Int}  (ha : isSt a = true) (he : 1 ≤ e) (hS : Shp M)
  (h : (((32 : Int) ≤ i) → (Q (some (vI c)) M)) ∧ (¬ ((32 : Int) ≤ i) → (Run (e + 1) mX7_thoughtsOf 4 [some (vR a), some (vI p), some (vI (w32 (c + (if (atv M 32 (a + 1) i) ≠ p then (0 : Int) else (1 : Int))))), some (vI (w32 (i + (1 : Int))))] [] M Q))) :
  Run (e + 1) mX7_thoughtsOf 4 [some (vR a), some (vI p), some (vI c), some (vI i)] [] M Q := by
  refine r_iload_n dX7_thoughtsOf_4 rfl ?_
  refine r_bipush dX7_thoughtsOf_5 (by decide) ?_
  refine r_icmp_ge dX7_thoughtsOf_7 rfl (fun c1 => ?_) (fun c1 => ?_)
  · refine r_iload_n dX7_thoughtsOf_36 rfl ?_
    exact r_iret dX7_thoughtsOf_37 rfl (h.1 c1)
  · refine r_iload_n dX7_thoughtsOf_10 rfl ?_
    refine r_aload_n dX7_thoughtsOf_11 rfl ?_
    refine r_getS (v := (a + 1)) dX7_thoughtsOf_12 kF7_9 (st_o hS ha) (st_f0 hS ha) ?_
    refine r_iload_n dX7_thoughtsOf_15 rfl ?_
    refine r_invS_i dX7_thoughtsOf_16 (by decide) kXn7_50 kM7_50 (by decide) (Nat.le_of_ble_eq_true rfl) rfl rfl (Nat.le_of_ble_eq_true rfl) (Nat.le_of_ble_eq_true rfl) (c_at (by omega) (st_r1 hS ha) ⟨_, rfl, ?_⟩)
    refine r_iload_n dX7_thoughtsOf_19 rfl ?_
    have K2 : Run (e + 1) mX7_thoughtsOf 28 [some (vR a), some (vI p), some (vI c), some (vI i)] [vI (if (atv M 32 (a + 1) i) ≠ p then (0 : Int) else (1 : Int)), vI c] M Q := by
      refine r_iadd dX7_thoughtsOf_28 ?_
      refine r_istore_n (ls2 := [some (vR a), some (vI p), some (vI (w32 (c + (if (atv M 32 (a + 1) i) ≠ p then (0 : Int) else (1 : Int))))), some (vI i)]) dX7_thoughtsOf_29 (Nat.le_of_ble_eq_true rfl) rfl ?_
      refine r_iinc (ls2 := [some (vR a), some (vI p), some (vI (w32 (c + (if (atv M 32 (a + 1) i) ≠ p then (0 : Int) else (1 : Int))))), some (vI (w32 (i + (1 : Int))))]) dX7_thoughtsOf_30 rfl rfl ?_
      refine r_goto (tgt := 4) dX7_thoughtsOf_33 rfl ?_
      exact (h.2 c1)
    refine r_icmp_ne dX7_thoughtsOf_20 rfl (fun q3 => ?_) (fun q3 => ?_)
    · rw [if_pos q3] at K2
      refine r_iconst dX7_thoughtsOf_27 (by decide) ?_
      exact K2
    · rw [if_neg q3] at K2
      refine r_iconst dX7_thoughtsOf_23 (by decide) ?_
      refine r_goto (tgt := 28) dX7_thoughtsOf_24 rfl ?_
      exact K2
theorem vs_thinksOf {e : Nat} {M : jM} {Q : Option jV → jM → Prop} {a : Nat} {mi : Int} {p : Int} (ha : isSt a = true) (he : 1 ≤ e) (hS : Shp M)
  (h : Run (e + 1) mX7_thinksOf 2 [some (vR a), some (vI mi), some (vI p), some (vI (0 : Int))] [] M Q) :
  Call (e + 1) mX7_thinksOf [vR a, vI mi, vI p] M Q := by
  show Run (e + 1) mX7_thinksOf 0 [some (vR a), some (vI mi), some (vI p), none] [] M Q
  refine r_iconst dX7_thinksOf_0 (by decide) ?_
  refine r_istore_n (ls2 := [some (vR a), some (vI mi), some (vI p), some (vI (0 : Int))]) dX7_thinksOf_1 (Nat.le_of_ble_eq_true rfl) rfl ?_
  exact h
theorem vs_thinksOf_2 {e : Nat} {M : jM} {Q : Option jV → jM → Prop} {a : Nat} {mi : Int} {p : Int} {i : Int}  (ha : isSt a = true) (he : 1 ≤ e) (hS : Shp M)
  (h : (((4 : Int) ≤ i) → (Q (some (vI (0 : Int))) M)) ∧ (¬ ((4 : Int) ≤ i) → ((((atv M 32 (a + 1) (w32 ((w32 (mi * (4 : Int))) + i))) ≠ p) → (Run (e + 1) mX7_thinksOf 2 [some (vR a), some (vI mi), some (vI p), some (vI (w32 (i + (1 : Int))))] [] M Q)) ∧ (¬ ((atv M 32 (a + 1) (w32 ((w32 (mi * (4 : Int))) + i))) ≠ p) → (Q (some (vI (1 : Int))) M))))) :
  Run (e + 1) mX7_thinksOf 2 [some (vR a), some (vI mi), some (vI p), some (vI i)] [] M Q := by
  refine r_iload_n dX7_thinksOf_2 rfl ?_
  refine r_iconst dX7_thinksOf_3 (by decide) ?_
  refine r_icmp_ge dX7_thinksOf_4 rfl (fun c1 => ?_) (fun c1 => ?_)
  · refine r_iconst dX7_thinksOf_31 (by decide) ?_
    exact r_zret dX7_thinksOf_32 rfl (by decide) (h.1 c1)
  · refine r_aload_n dX7_thinksOf_7 rfl ?_
    refine r_getS (v := (a + 1)) dX7_thinksOf_8 kF7_9 (st_o hS ha) (st_f0 hS ha) ?_
    refine r_iload_n dX7_thinksOf_11 rfl ?_
    refine r_iconst dX7_thinksOf_12 (by decide) ?_
    refine r_imul dX7_thinksOf_13 ?_
    refine r_iload_n dX7_thinksOf_14 rfl ?_
    refine r_iadd dX7_thinksOf_15 ?_
    refine r_invS_i dX7_thinksOf_16 (by decide) kXn7_50 kM7_50 (by decide) (Nat.le_of_ble_eq_true rfl) rfl rfl (Nat.le_of_ble_eq_true rfl) (Nat.le_of_ble_eq_true rfl) (c_at (by omega) (st_r1 hS ha) ⟨_, rfl, ?_⟩)
    refine r_iload_n dX7_thinksOf_19 rfl ?_
    refine r_icmp_ne dX7_thinksOf_20 rfl (fun c2 => ?_) (fun c2 => ?_)
    · refine r_iinc (ls2 := [some (vR a), some (vI mi), some (vI p), some (vI (w32 (i + (1 : Int))))]) dX7_thinksOf_25 rfl rfl ?_
      refine r_goto (tgt := 2) dX7_thinksOf_28 rfl ?_
      exact ((h.2 c1).1 c2)
    · refine r_iconst dX7_thinksOf_23 (by decide) ?_
      exact r_zret dX7_thinksOf_24 rfl (by decide) ((h.2 c1).2 c2)
theorem vs_heaviest {e : Nat} {M : jM} {Q : Option jV → jM → Prop} {a : Nat} {p : Int} (ha : isSt a = true) (he : 1 ≤ e) (hS : Shp M)
  (h : Run (e + 1) mX7_heaviestThoughtOf 4 [some (vR a), some (vI p), some (vI (-1 : Int)), some (vI (0 : Int))] [] M Q) :
  Call (e + 1) mX7_heaviestThoughtOf [vR a, vI p] M Q := by
  show Run (e + 1) mX7_heaviestThoughtOf 0 [some (vR a), some (vI p), none, none] [] M Q
  refine r_iconst dX7_heaviestThoughtOf_0 (by decide) ?_
  refine r_istore_n (ls2 := [some (vR a), some (vI p), some (vI (-1 : Int)), none]) dX7_heaviestThoughtOf_1 (Nat.le_of_ble_eq_true rfl) rfl ?_
  refine r_iconst dX7_heaviestThoughtOf_2 (by decide) ?_
  refine r_istore_n (ls2 := [some (vR a), some (vI p), some (vI (-1 : Int)), some (vI (0 : Int))]) dX7_heaviestThoughtOf_3 (Nat.le_of_ble_eq_true rfl) rfl ?_
  exact h
theorem vs_heaviest_4 {e : Nat} {M : jM} {Q : Option jV → jM → Prop} {a : Nat} {p : Int} {b : Int} {i : Int}  (ha : isSt a = true) (he : 1 ≤ e) (hS : Shp M)
  (h : (((32 : Int) ≤ i) → (Q (some (vI b)) M)) ∧ (¬ ((32 : Int) ≤ i) → ((((atv M 32 (a + 1) i) ≠ p) → (Run (e + 1) mX7_heaviestThoughtOf 4 [some (vR a), some (vI p), some (vI b), some (vI (w32 (i + (1 : Int))))] [] M Q)) ∧ (¬ ((atv M 32 (a + 1) i) ≠ p) → (((b = (-1 : Int)) → (Run (e + 1) mX7_heaviestThoughtOf 4 [some (vR a), some (vI p), some (vI i), some (vI (w32 (i + (1 : Int))))] [] M Q)) ∧ (¬ (b = (-1 : Int)) → ((((atv M 32 (a + 5) i) ≤ (atv M 32 (a + 5) b)) → (Run (e + 1) mX7_heaviestThoughtOf 4 [some (vR a), some (vI p), some (vI b), some (vI (w32 (i + (1 : Int))))] [] M Q)) ∧ (¬ ((atv M 32 (a + 5) i) ≤ (atv M 32 (a + 5) b)) → (Run (e + 1) mX7_heaviestThoughtOf 4 [some (vR a), some (vI p), some (vI i), some (vI (w32 (i + (1 : Int))))] [] M Q))))))))) :
  Run (e + 1) mX7_heaviestThoughtOf 4 [some (vR a), some (vI p), some (vI b), some (vI i)] [] M Q := by
  refine r_iload_n dX7_heaviestThoughtOf_4 rfl ?_
  refine r_bipush dX7_heaviestThoughtOf_5 (by decide) ?_
  refine r_icmp_ge dX7_heaviestThoughtOf_7 rfl (fun c1 => ?_) (fun c1 => ?_)
  · refine r_iload_n dX7_heaviestThoughtOf_54 rfl ?_
    exact r_iret dX7_heaviestThoughtOf_55 rfl (h.1 c1)
  · refine r_aload_n dX7_heaviestThoughtOf_10 rfl ?_
    refine r_getS (v := (a + 1)) dX7_heaviestThoughtOf_11 kF7_9 (st_o hS ha) (st_f0 hS ha) ?_
    refine r_iload_n dX7_heaviestThoughtOf_14 rfl ?_
    refine r_invS_i dX7_heaviestThoughtOf_15 (by decide) kXn7_50 kM7_50 (by decide) (Nat.le_of_ble_eq_true rfl) rfl rfl (Nat.le_of_ble_eq_true rfl) (Nat.le_of_ble_eq_true rfl) (c_at (by omega) (st_r1 hS ha) ⟨_, rfl, ?_⟩)
    refine r_iload_n dX7_heaviestThoughtOf_18 rfl ?_
    refine r_icmp_ne dX7_heaviestThoughtOf_19 rfl (fun c2 => ?_) (fun c2 => ?_)
    · refine r_iinc (ls2 := [some (vR a), some (vI p), some (vI b), some (vI (w32 (i + (1 : Int))))]) dX7_heaviestThoughtOf_48 rfl rfl ?_
      refine r_goto (tgt := 4) dX7_heaviestThoughtOf_51 rfl ?_
      exact ((h.2 c1).1 c2)
    · refine r_iload_n dX7_heaviestThoughtOf_22 rfl ?_
      refine r_iconst dX7_heaviestThoughtOf_23 (by decide) ?_
      refine r_icmp_eq dX7_heaviestThoughtOf_24 rfl (fun c3 => ?_) (fun c3 => ?_)
      · refine r_iload_n dX7_heaviestThoughtOf_46 rfl ?_
        refine r_istore_n (ls2 := [some (vR a), some (vI p), some (vI i), some (vI i)]) dX7_heaviestThoughtOf_47 (Nat.le_of_ble_eq_true rfl) rfl ?_
        refine r_iinc (ls2 := [some (vR a), some (vI p), some (vI i), some (vI (w32 (i + (1 : Int))))]) dX7_heaviestThoughtOf_48 rfl rfl ?_
        refine r_goto (tgt := 4) dX7_heaviestThoughtOf_51 rfl ?_
        exact (((h.2 c1).2 c2).1 c3)
      · refine r_aload_n dX7_heaviestThoughtOf_27 rfl ?_
        refine r_getS (v := (a + 5)) dX7_heaviestThoughtOf_28 kF7_24 (st_o hS ha) (st_f4 hS ha) ?_
        refine r_iload_n dX7_heaviestThoughtOf_31 rfl ?_
        refine r_invS_i dX7_heaviestThoughtOf_32 (by decide) kXn7_50 kM7_50 (by decide) (Nat.le_of_ble_eq_true rfl) rfl rfl (Nat.le_of_ble_eq_true rfl) (Nat.le_of_ble_eq_true rfl) (c_at (by omega) (st_r5 hS ha) ⟨_, rfl, ?_⟩)
        refine r_aload_n dX7_heaviestThoughtOf_35 rfl ?_
        refine r_getS (v := (a + 5)) dX7_heaviestThoughtOf_36 kF7_24 (st_o hS ha) (st_f4 hS ha) ?_
        refine r_iload_n dX7_heaviestThoughtOf_39 rfl ?_
        refine r_invS_i dX7_heaviestThoughtOf_40 (by decide) kXn7_50 kM7_50 (by decide) (Nat.le_of_ble_eq_true rfl) rfl rfl (Nat.le_of_ble_eq_true rfl) (Nat.le_of_ble_eq_true rfl) (c_at (by omega) (st_r5 hS ha) ⟨_, rfl, ?_⟩)
        refine r_icmp_le dX7_heaviestThoughtOf_43 rfl (fun c4 => ?_) (fun c4 => ?_)
        · refine r_iinc (ls2 := [some (vR a), some (vI p), some (vI b), some (vI (w32 (i + (1 : Int))))]) dX7_heaviestThoughtOf_48 rfl rfl ?_
          refine r_goto (tgt := 4) dX7_heaviestThoughtOf_51 rfl ?_
          exact ((((h.2 c1).2 c2).2 c3).1 c4)
        · refine r_iload_n dX7_heaviestThoughtOf_46 rfl ?_
          refine r_istore_n (ls2 := [some (vR a), some (vI p), some (vI i), some (vI i)]) dX7_heaviestThoughtOf_47 (Nat.le_of_ble_eq_true rfl) rfl ?_
          refine r_iinc (ls2 := [some (vR a), some (vI p), some (vI i), some (vI (w32 (i + (1 : Int))))]) dX7_heaviestThoughtOf_48 rfl rfl ?_
          refine r_goto (tgt := 4) dX7_heaviestThoughtOf_51 rfl ?_
          exact ((((h.2 c1).2 c2).2 c3).2 c4)
theorem vs_oldestAge {e : Nat} {M : jM} {Q : Option jV → jM → Prop} {a : Nat} (ha : isSt a = true) (he : 1 ≤ e) (hS : Shp M)
  (h : Run (e + 1) mX7_oldestAge 4 [some (vR a), some (vI (-1 : Int)), some (vI (0 : Int))] [] M Q) :
  Call (e + 1) mX7_oldestAge [vR a] M Q := by
  show Run (e + 1) mX7_oldestAge 0 [some (vR a), none, none] [] M Q
  refine r_iconst dX7_oldestAge_0 (by decide) ?_
  refine r_istore_n (ls2 := [some (vR a), some (vI (-1 : Int)), none]) dX7_oldestAge_1 (Nat.le_of_ble_eq_true rfl) rfl ?_
  refine r_iconst dX7_oldestAge_2 (by decide) ?_
  refine r_istore_n (ls2 := [some (vR a), some (vI (-1 : Int)), some (vI (0 : Int))]) dX7_oldestAge_3 (Nat.le_of_ble_eq_true rfl) rfl ?_
  exact h
theorem vs_oldestAge_4 {e : Nat} {M : jM} {Q : Option jV → jM → Prop} {a : Nat} {b : Int} {i : Int}  (ha : isSt a = true) (he : 1 ≤ e) (hS : Shp M)
  (h : (((32 : Int) ≤ i) → (Q (some (vI b)) M)) ∧ (¬ ((32 : Int) ≤ i) → ((((atv M 32 (a + 1) i) = (-1 : Int)) → (Run (e + 1) mX7_oldestAge 4 [some (vR a), some (vI b), some (vI (w32 (i + (1 : Int))))] [] M Q)) ∧ (¬ ((atv M 32 (a + 1) i) = (-1 : Int)) → ((((atv M 32 (a + 4) i) ≤ b) → (Run (e + 1) mX7_oldestAge 4 [some (vR a), some (vI b), some (vI (w32 (i + (1 : Int))))] [] M Q)) ∧ (¬ ((atv M 32 (a + 4) i) ≤ b) → (Run (e + 1) mX7_oldestAge 4 [some (vR a), some (vI (atv M 32 (a + 4) i)), some (vI (w32 (i + (1 : Int))))] [] M Q))))))) :
  Run (e + 1) mX7_oldestAge 4 [some (vR a), some (vI b), some (vI i)] [] M Q := by
  refine r_iload_n dX7_oldestAge_4 rfl ?_
  refine r_bipush dX7_oldestAge_5 (by decide) ?_
  refine r_icmp_ge dX7_oldestAge_7 rfl (fun c1 => ?_) (fun c1 => ?_)
  · refine r_iload_n dX7_oldestAge_49 rfl ?_
    exact r_iret dX7_oldestAge_50 rfl (h.1 c1)
  · refine r_aload_n dX7_oldestAge_10 rfl ?_
    refine r_getS (v := (a + 1)) dX7_oldestAge_11 kF7_9 (st_o hS ha) (st_f0 hS ha) ?_
    refine r_iload_n dX7_oldestAge_14 rfl ?_
    refine r_invS_i dX7_oldestAge_15 (by decide) kXn7_50 kM7_50 (by decide) (Nat.le_of_ble_eq_true rfl) rfl rfl (Nat.le_of_ble_eq_true rfl) (Nat.le_of_ble_eq_true rfl) (c_at (by omega) (st_r1 hS ha) ⟨_, rfl, ?_⟩)
    refine r_iconst dX7_oldestAge_18 (by decide) ?_
    refine r_icmp_eq dX7_oldestAge_19 rfl (fun c2 => ?_) (fun c2 => ?_)
    · refine r_iinc (ls2 := [some (vR a), some (vI b), some (vI (w32 (i + (1 : Int))))]) dX7_oldestAge_43 rfl rfl ?_
      refine r_goto (tgt := 4) dX7_oldestAge_46 rfl ?_
      exact ((h.2 c1).1 c2)
    · refine r_aload_n dX7_oldestAge_22 rfl ?_
      refine r_getS (v := (a + 4)) dX7_oldestAge_23 kF7_21 (st_o hS ha) (st_f3 hS ha) ?_
      refine r_iload_n dX7_oldestAge_26 rfl ?_
      refine r_invS_i dX7_oldestAge_27 (by decide) kXn7_50 kM7_50 (by decide) (Nat.le_of_ble_eq_true rfl) rfl rfl (Nat.le_of_ble_eq_true rfl) (Nat.le_of_ble_eq_true rfl) (c_at (by omega) (st_r4 hS ha) ⟨_, rfl, ?_⟩)
      refine r_iload_n dX7_oldestAge_30 rfl ?_
      refine r_icmp_le dX7_oldestAge_31 rfl (fun c3 => ?_) (fun c3 => ?_)
      · refine r_iinc (ls2 := [some (vR a), some (vI b), some (vI (w32 (i + (1 : Int))))]) dX7_oldestAge_43 rfl rfl ?_
        refine r_goto (tgt := 4) dX7_oldestAge_46 rfl ?_
        exact (((h.2 c1).2 c2).1 c3)
      · refine r_aload_n dX7_oldestAge_34 rfl ?_
        refine r_getS (v := (a + 4)) dX7_oldestAge_35 kF7_21 (st_o hS ha) (st_f3 hS ha) ?_
        refine r_iload_n dX7_oldestAge_38 rfl ?_
        refine r_invS_i dX7_oldestAge_39 (by decide) kXn7_50 kM7_50 (by decide) (Nat.le_of_ble_eq_true rfl) rfl rfl (Nat.le_of_ble_eq_true rfl) (Nat.le_of_ble_eq_true rfl) (c_at (by omega) (st_r4 hS ha) ⟨_, rfl, ?_⟩)
        refine r_istore_n (ls2 := [some (vR a), some (vI (atv M 32 (a + 4) i)), some (vI i)]) dX7_oldestAge_42 (Nat.le_of_ble_eq_true rfl) rfl ?_
        refine r_iinc (ls2 := [some (vR a), some (vI (atv M 32 (a + 4) i)), some (vI (w32 (i + (1 : Int))))]) dX7_oldestAge_43 rfl rfl ?_
        refine r_goto (tgt := 4) dX7_oldestAge_46 rfl ?_
        exact (((h.2 c1).2 c2).2 c3)
theorem vs_copyMinds {e : Nat} {M : jM} {Q : Option jV → jM → Prop} {a : Nat} {b : Nat} (ha : isSt a = true) (hb : isSt b = true) (he : 1 ≤ e) (hS : Shp M)
  (h : Q none (si (si (si (cpr (cpr (cpr (cpr (cpr (cpr M (b + 1) (a + 1) 32) (b + 2) (a + 2) 32) (b + 3) (a + 3) 32) (b + 4) (a + 4) 32) (b + 5) (a + 5) 32) (b + 6) (a + 6) 8) a 7 (iv (cpr (cpr (cpr (cpr (cpr (cpr M (b + 1) (a + 1) 32) (b + 2) (a + 2) 32) (b + 3) (a + 3) 32) (b + 4) (a + 4) 32) (b + 5) (a + 5) 32) (b + 6) (a + 6) 8) b 7)) a 8 (iv (si (cpr (cpr (cpr (cpr (cpr (cpr M (b + 1) (a + 1) 32) (b + 2) (a + 2) 32) (b + 3) (a + 3) 32) (b + 4) (a + 4) 32) (b + 5) (a + 5) 32) (b + 6) (a + 6) 8) a 7 (iv (cpr (cpr (cpr (cpr (cpr (cpr M (b + 1) (a + 1) 32) (b + 2) (a + 2) 32) (b + 3) (a + 3) 32) (b + 4) (a + 4) 32) (b + 5) (a + 5) 32) (b + 6) (a + 6) 8) b 7)) b 8)) a 9 (iv (si (si (cpr (cpr (cpr (cpr (cpr (cpr M (b + 1) (a + 1) 32) (b + 2) (a + 2) 32) (b + 3) (a + 3) 32) (b + 4) (a + 4) 32) (b + 5) (a + 5) 32) (b + 6) (a + 6) 8) a 7 (iv (cpr (cpr (cpr (cpr (cpr (cpr M (b + 1) (a + 1) 32) (b + 2) (a + 2) 32) (b + 3) (a + 3) 32) (b + 4) (a + 4) 32) (b + 5) (a + 5) 32) (b + 6) (a + 6) 8) b 7)) a 8 (iv (si (cpr (cpr (cpr (cpr (cpr (cpr M (b + 1) (a + 1) 32) (b + 2) (a + 2) 32) (b + 3) (a + 3) 32) (b + 4) (a + 4) 32) (b + 5) (a + 5) 32) (b + 6) (a + 6) 8) a 7 (iv (cpr (cpr (cpr (cpr (cpr (cpr M (b + 1) (a + 1) 32) (b + 2) (a + 2) 32) (b + 3) (a + 3) 32) (b + 4) (a + 4) 32) (b + 5) (a + 5) 32) (b + 6) (a + 6) 8) b 7)) b 8)) b 9))) :
  Call (e + 1) mX7_copyMinds [vR a, vR b] M Q := by
  show Run (e + 1) mX7_copyMinds 0 [some (vR a), some (vR b)] [] M Q
  refine r_aload_n dX7_copyMinds_0 rfl ?_
  refine r_getS (v := (b + 1)) dX7_copyMinds_1 kF7_9 (st_o hS hb) (st_f0 hS hb) ?_
  refine r_aload_n dX7_copyMinds_4 rfl ?_
  refine r_getS (v := (a + 1)) dX7_copyMinds_5 kF7_9 (st_o hS ha) (st_f0 hS ha) ?_
  refine r_invS_v dX7_copyMinds_8 (by decide) kXn7_62 kM7_62 (by decide) (Nat.le_of_ble_eq_true rfl) rfl rfl (Nat.le_of_ble_eq_true rfl) (Nat.le_of_ble_eq_true rfl) (c_copyRow (by omega) (st_r1 hS hb) (st_r1 hS ha) (by have := st_6 ha; omega) (by decide) ⟨rfl, ?_⟩)
  refine r_aload_n dX7_copyMinds_11 rfl ?_
  refine r_getS (v := (b + 2)) dX7_copyMinds_12 kF7_15 (st_o hS hb) (st_f1 hS hb) ?_
  refine r_aload_n dX7_copyMinds_15 rfl ?_
  refine r_getS (v := (a + 2)) dX7_copyMinds_16 kF7_15 (st_o hS ha) (st_f1 hS ha) ?_
  refine r_invS_v dX7_copyMinds_19 (by decide) kXn7_62 kM7_62 (by decide) (Nat.le_of_ble_eq_true rfl) rfl rfl (Nat.le_of_ble_eq_true rfl) (Nat.le_of_ble_eq_true rfl) (c_copyRow (by omega) (st_r2 hS hb) (st_r2 hS ha) (by have := st_6 ha; omega) (by decide) ⟨rfl, ?_⟩)
  refine r_aload_n dX7_copyMinds_22 rfl ?_
  refine r_getS (v := (b + 3)) dX7_copyMinds_23 kF7_18 (st_o hS hb) (st_f2 hS hb) ?_
  refine r_aload_n dX7_copyMinds_26 rfl ?_
  refine r_getS (v := (a + 3)) dX7_copyMinds_27 kF7_18 (st_o hS ha) (st_f2 hS ha) ?_
  refine r_invS_v dX7_copyMinds_30 (by decide) kXn7_62 kM7_62 (by decide) (Nat.le_of_ble_eq_true rfl) rfl rfl (Nat.le_of_ble_eq_true rfl) (Nat.le_of_ble_eq_true rfl) (c_copyRow (by omega) (st_r3 hS hb) (st_r3 hS ha) (by have := st_6 ha; omega) (by decide) ⟨rfl, ?_⟩)
  refine r_aload_n dX7_copyMinds_33 rfl ?_
  refine r_getS (v := (b + 4)) dX7_copyMinds_34 kF7_21 (st_o hS hb) (st_f3 hS hb) ?_
  refine r_aload_n dX7_copyMinds_37 rfl ?_
  refine r_getS (v := (a + 4)) dX7_copyMinds_38 kF7_21 (st_o hS ha) (st_f3 hS ha) ?_
  refine r_invS_v dX7_copyMinds_41 (by decide) kXn7_62 kM7_62 (by decide) (Nat.le_of_ble_eq_true rfl) rfl rfl (Nat.le_of_ble_eq_true rfl) (Nat.le_of_ble_eq_true rfl) (c_copyRow (by omega) (st_r4 hS hb) (st_r4 hS ha) (by have := st_6 ha; omega) (by decide) ⟨rfl, ?_⟩)
  refine r_aload_n dX7_copyMinds_44 rfl ?_
  refine r_getS (v := (b + 5)) dX7_copyMinds_45 kF7_24 (st_o hS hb) (st_f4 hS hb) ?_
  refine r_aload_n dX7_copyMinds_48 rfl ?_
  refine r_getS (v := (a + 5)) dX7_copyMinds_49 kF7_24 (st_o hS ha) (st_f4 hS ha) ?_
  refine r_invS_v dX7_copyMinds_52 (by decide) kXn7_62 kM7_62 (by decide) (Nat.le_of_ble_eq_true rfl) rfl rfl (Nat.le_of_ble_eq_true rfl) (Nat.le_of_ble_eq_true rfl) (c_copyRow (by omega) (st_r5 hS hb) (st_r5 hS ha) (by have := st_6 ha; omega) (by decide) ⟨rfl, ?_⟩)
  refine r_aload_n dX7_copyMinds_55 rfl ?_
  refine r_getS (v := (b + 6)) dX7_copyMinds_56 kF7_27 (st_o hS hb) (st_f5 hS hb) ?_
  refine r_aload_n dX7_copyMinds_59 rfl ?_
  refine r_getS (v := (a + 6)) dX7_copyMinds_60 kF7_27 (st_o hS ha) (st_f5 hS ha) ?_
  refine r_invS_v dX7_copyMinds_63 (by decide) kXn7_62 kM7_62 (by decide) (Nat.le_of_ble_eq_true rfl) rfl rfl (Nat.le_of_ble_eq_true rfl) (Nat.le_of_ble_eq_true rfl) (c_copyRow (by omega) (st_r6 hS hb) (st_r6 hS ha) (by have := st_6 ha; omega) (by decide) ⟨rfl, ?_⟩)
  refine r_aload_n dX7_copyMinds_66 rfl ?_
  refine r_aload_n dX7_copyMinds_67 rfl ?_
  refine r_get0 dX7_copyMinds_68 kF7_69 (st_o hS hb) ?_
  refine r_put0 dX7_copyMinds_71 kF7_69 (st_o hS ha) (Or.inl rfl) ?_
  refine r_aload_n dX7_copyMinds_74 rfl ?_
  refine r_aload_n dX7_copyMinds_75 rfl ?_
  refine r_get0 dX7_copyMinds_76 kF7_72 (st_o hS hb) ?_
  refine r_put0 dX7_copyMinds_79 kF7_72 (st_o hS ha) (Or.inl rfl) ?_
  refine r_aload_n dX7_copyMinds_82 rfl ?_
  refine r_aload_n dX7_copyMinds_83 rfl ?_
  refine r_get0 dX7_copyMinds_84 kF7_75 (st_o hS hb) ?_
  refine r_put0 dX7_copyMinds_87 kF7_75 (st_o hS ha) (Or.inl rfl) ?_
  exact r_vret dX7_copyMinds_90 rfl h
