theorem vc_at {e : Nat} {M : jM} {Q : Option jV → jM → Prop} {r : Nat} {i : Int} {n : Nat} (hr : jro M 20 n r) 
  (h : ((i < (0 : Int)) → (Q (some (vI (0 : Int))) M)) ∧ (¬ (i < (0 : Int)) → ((((n : Int) ≤ i) → (Q (some (vI (0 : Int))) M)) ∧ (¬ ((n : Int) ≤ i) → ((0 ≤ i ∧ i < n) ∧ (Q (some (vI (iv M r (i).toNat))) M)))))) :
  Call (e + 1) mX10_at [vR r, vI i] M Q := by
  show Run (e + 1) mX10_at 0 [some (vR r), some (vI i)] [] M Q
  refine r_aload_n dX10_at_0 rfl ?_
  refine r_ifnull dX10_at_1 rfl (fun q => absurd q (by have := hr.1; omega)) (fun _ => ?_)
  refine r_iload_n dX10_at_4 rfl ?_
  refine r_if_lt dX10_at_5 rfl (fun c1 => ?_) (fun c1 => ?_)
  · refine r_iconst dX10_at_20 (by decide) ?_
    exact r_iret dX10_at_21 rfl (h.1 c1)
  · refine r_iload_n dX10_at_8 rfl ?_
    refine r_aload_n dX10_at_9 rfl ?_
    refine r_lenS dX10_at_10 hr (by decide) ?_
    refine r_icmp_ge dX10_at_11 rfl (fun c2 => ?_) (fun c2 => ?_)
    · refine r_iconst dX10_at_20 (by decide) ?_
      exact r_iret dX10_at_21 rfl ((h.2 c1).1 c2)
    · refine r_aload_n dX10_at_14 rfl ?_
      refine r_iload_n dX10_at_15 rfl ?_
      refine r_iaload dX10_at_16 (jro_ix hr ((h.2 c1).2 c2).1) ?_
      refine r_goto (tgt := 21) dX10_at_17 rfl ?_
      exact r_iret dX10_at_21 rfl ((h.2 c1).2 c2).2
theorem vc_put {e : Nat} {M : jM} {Q : Option jV → jM → Prop} {r : Nat} {i : Int} {v : Int} {n : Nat} (hr : jro M 20 n r) (h6 : 6 ≤ r) 
  (h : ((i < (0 : Int)) → (Q none M)) ∧ (¬ (i < (0 : Int)) → ((((n : Int) ≤ i) → (Q none M)) ∧ (¬ ((n : Int) ≤ i) → ((0 ≤ i ∧ i < n) ∧ (Q none (si M r (i).toNat v))))))) :
  Call (e + 1) mX10_put [vR r, vI i, vI v] M Q := by
  show Run (e + 1) mX10_put 0 [some (vR r), some (vI i), some (vI v)] [] M Q
  refine r_aload_n dX10_put_0 rfl ?_
  refine r_ifnull dX10_put_1 rfl (fun q => absurd q (by have := hr.1; omega)) (fun _ => ?_)
  refine r_iload_n dX10_put_4 rfl ?_
  refine r_if_lt dX10_put_5 rfl (fun c1 => ?_) (fun c1 => ?_)
  · exact r_vret dX10_put_18 rfl (h.1 c1)
  · refine r_iload_n dX10_put_8 rfl ?_
    refine r_aload_n dX10_put_9 rfl ?_
    refine r_lenS dX10_put_10 hr (by decide) ?_
    refine r_icmp_ge dX10_put_11 rfl (fun c2 => ?_) (fun c2 => ?_)
    · exact r_vret dX10_put_18 rfl ((h.2 c1).1 c2)
    · refine r_aload_n dX10_put_14 rfl ?_
      refine r_iload_n dX10_put_15 rfl ?_
      refine r_iload_n dX10_put_16 rfl ?_
      refine r_iastore dX10_put_17 ⟨jro_ix hr ((h.2 c1).2 c2).1, (h6)⟩ ?_
      exact r_vret dX10_put_18 rfl ((h.2 c1).2 c2).2
theorem vc_longAt {e : Nat} {M : jM} {Q : Option jV → jM → Prop} {r : Nat} {i : Int} {n : Nat} (hr : jro M 21 n r) 
  (h : ((i < (0 : Int)) → (Q (some (vL (0 : Int))) M)) ∧ (¬ (i < (0 : Int)) → ((((n : Int) ≤ i) → (Q (some (vL (0 : Int))) M)) ∧ (¬ ((n : Int) ≤ i) → ((0 ≤ i ∧ i < n) ∧ (Q (some (vL (lg M r (i).toNat))) M)))))) :
  Call (e + 1) mX10_longAt [vR r, vI i] M Q := by
  show Run (e + 1) mX10_longAt 0 [some (vR r), some (vI i)] [] M Q
  refine r_aload_n dX10_longAt_0 rfl ?_
  refine r_ifnull dX10_longAt_1 rfl (fun q => absurd q (by have := hr.1; omega)) (fun _ => ?_)
  refine r_iload_n dX10_longAt_4 rfl ?_
  refine r_if_lt dX10_longAt_5 rfl (fun c1 => ?_) (fun c1 => ?_)
  · refine r_lconst0 dX10_longAt_20 ?_
    exact r_lret dX10_longAt_21 rfl (h.1 c1)
  · refine r_iload_n dX10_longAt_8 rfl ?_
    refine r_aload_n dX10_longAt_9 rfl ?_
    refine r_lenS dX10_longAt_10 hr (by decide) ?_
    refine r_icmp_ge dX10_longAt_11 rfl (fun c2 => ?_) (fun c2 => ?_)
    · refine r_lconst0 dX10_longAt_20 ?_
      exact r_lret dX10_longAt_21 rfl ((h.2 c1).1 c2)
    · refine r_aload_n dX10_longAt_14 rfl ?_
      refine r_iload_n dX10_longAt_15 rfl ?_
      refine r_laload dX10_longAt_16 (jro_ix hr ((h.2 c1).2 c2).1) ?_
      refine r_goto (tgt := 21) dX10_longAt_17 rfl ?_
      exact r_lret dX10_longAt_21 rfl ((h.2 c1).2 c2).2
theorem vc_putLong {e : Nat} {M : jM} {Q : Option jV → jM → Prop} {r : Nat} {i : Int} {v : Int} {n : Nat} (hr : jro M 21 n r) (h6 : 6 ≤ r) 
  (h : ((i < (0 : Int)) → (Q none M)) ∧ (¬ (i < (0 : Int)) → ((((n : Int) ≤ i) → (Q none M)) ∧ (¬ ((n : Int) ≤ i) → ((0 ≤ i ∧ i < n) ∧ (Q none (sl M r (i).toNat v))))))) :
  Call (e + 1) mX10_putLong [vR r, vI i, vL v] M Q := by
  show Run (e + 1) mX10_putLong 0 [some (vR r), some (vI i), some (vL v), none] [] M Q
  refine r_aload_n dX10_putLong_0 rfl ?_
  refine r_ifnull dX10_putLong_1 rfl (fun q => absurd q (by have := hr.1; omega)) (fun _ => ?_)
  refine r_iload_n dX10_putLong_4 rfl ?_
  refine r_if_lt dX10_putLong_5 rfl (fun c1 => ?_) (fun c1 => ?_)
  · exact r_vret dX10_putLong_18 rfl (h.1 c1)
  · refine r_iload_n dX10_putLong_8 rfl ?_
    refine r_aload_n dX10_putLong_9 rfl ?_
    refine r_lenS dX10_putLong_10 hr (by decide) ?_
    refine r_icmp_ge dX10_putLong_11 rfl (fun c2 => ?_) (fun c2 => ?_)
    · exact r_vret dX10_putLong_18 rfl ((h.2 c1).1 c2)
    · refine r_aload_n dX10_putLong_14 rfl ?_
      refine r_iload_n dX10_putLong_15 rfl ?_
      refine r_lload_n dX10_putLong_16 rfl ?_
      refine r_lastore dX10_putLong_17 ⟨jro_ix hr ((h.2 c1).2 c2).1, (h6)⟩ ?_
      exact r_vret dX10_putLong_18 rfl ((h.2 c1).2 c2).2
theorem vc_isKind {e : Nat} {M : jM} {Q : Option jV → jM → Prop} {x : Int}  
  (h : Q (some (vI (if x < (0 : Int) then (0 : Int) else (if (3 : Int) ≤ x then (0 : Int) else (1 : Int))))) M) :
  Call (e + 1) mX10_isKind [vI x] M Q := by
  show Run (e + 1) mX10_isKind 0 [some (vI x)] [] M Q
  refine r_iload_n dX10_isKind_0 rfl ?_
  have K1 : Run (e + 1) mX10_isKind 14 [some (vI x)] [vI (if x < (0 : Int) then (0 : Int) else (if (3 : Int) ≤ x then (0 : Int) else (1 : Int)))] M Q := by
    exact r_zret dX10_isKind_14 rfl (by (repeat' split) <;> first | exact Or.inl rfl | exact Or.inr rfl) h
  refine r_if_lt dX10_isKind_1 rfl (fun q2 => ?_) (fun q2 => ?_)
  · rw [if_pos q2] at K1
    refine r_iconst dX10_isKind_13 (by decide) ?_
    exact K1
  · rw [if_neg q2] at K1
    refine r_iload_n dX10_isKind_4 rfl ?_
    refine r_iconst dX10_isKind_5 (by decide) ?_
    refine r_icmp_ge dX10_isKind_6 rfl (fun q4 => ?_) (fun q4 => ?_)
    · rw [if_pos q4] at K1
      refine r_iconst dX10_isKind_13 (by decide) ?_
      exact K1
    · rw [if_neg q4] at K1
      refine r_iconst dX10_isKind_9 (by decide) ?_
      refine r_goto (tgt := 14) dX10_isKind_10 rfl ?_
      exact K1
theorem vc_isPlace {e : Nat} {M : jM} {Q : Option jV → jM → Prop} {x : Int}  
  (h : Q (some (vI (if x < (0 : Int) then (0 : Int) else (if (4 : Int) ≤ x then (0 : Int) else (1 : Int))))) M) :
  Call (e + 1) mX10_isPlace [vI x] M Q := by
  show Run (e + 1) mX10_isPlace 0 [some (vI x)] [] M Q
  refine r_iload_n dX10_isPlace_0 rfl ?_
  have K1 : Run (e + 1) mX10_isPlace 14 [some (vI x)] [vI (if x < (0 : Int) then (0 : Int) else (if (4 : Int) ≤ x then (0 : Int) else (1 : Int)))] M Q := by
    exact r_zret dX10_isPlace_14 rfl (by (repeat' split) <;> first | exact Or.inl rfl | exact Or.inr rfl) h
  refine r_if_lt dX10_isPlace_1 rfl (fun q2 => ?_) (fun q2 => ?_)
  · rw [if_pos q2] at K1
    refine r_iconst dX10_isPlace_13 (by decide) ?_
    exact K1
  · rw [if_neg q2] at K1
    refine r_iload_n dX10_isPlace_4 rfl ?_
    refine r_iconst dX10_isPlace_5 (by decide) ?_
    refine r_icmp_ge dX10_isPlace_6 rfl (fun q4 => ?_) (fun q4 => ?_)
    · rw [if_pos q4] at K1
      refine r_iconst dX10_isPlace_13 (by decide) ?_
      exact K1
    · rw [if_neg q4] at K1
      refine r_iconst dX10_isPlace_9 (by decide) ?_
      refine r_goto (tgt := 14) dX10_isPlace_10 rfl ?_
      exact K1
theorem vc_goesInto {e : Nat} {M : jM} {Q : Option jV → jM → Prop} {x : Int} {y : Int}  
  (h : Q (some (vI (if x = (0 : Int) then (1 : Int) else (if x ≠ (2 : Int) then (if y ≠ (2 : Int) then (1 : Int) else (0 : Int)) else (if y ≠ (2 : Int) then (0 : Int) else (1 : Int)))))) M) :
  Call (e + 1) mX10_goesInto [vI x, vI y] M Q := by
  show Run (e + 1) mX10_goesInto 0 [some (vI x), some (vI y)] [] M Q
  refine r_iload_n dX10_goesInto_0 rfl ?_
  have K1 : Run (e + 1) mX10_goesInto 32 [some (vI x), some (vI y)] [vI (if x = (0 : Int) then (1 : Int) else (if x ≠ (2 : Int) then (if y ≠ (2 : Int) then (1 : Int) else (0 : Int)) else (if y ≠ (2 : Int) then (0 : Int) else (1 : Int))))] M Q := by
    exact r_zret dX10_goesInto_32 rfl (by (repeat' split) <;> first | exact Or.inl rfl | exact Or.inr rfl) h
  refine r_if_eq dX10_goesInto_1 rfl (fun q2 => ?_) (fun q2 => ?_)
  · rw [if_pos q2] at K1
    refine r_iconst dX10_goesInto_27 (by decide) ?_
    refine r_goto (tgt := 32) dX10_goesInto_28 rfl ?_
    exact K1
  · rw [if_neg q2] at K1
    refine r_iload_n dX10_goesInto_4 rfl ?_
    refine r_iconst dX10_goesInto_5 (by decide) ?_
    refine r_icmp_ne dX10_goesInto_6 rfl (fun q4 => ?_) (fun q4 => ?_)
    · rw [if_pos q4] at K1
      refine r_iconst dX10_goesInto_13 (by decide) ?_
      refine r_iload_n dX10_goesInto_14 rfl ?_
      refine r_iconst dX10_goesInto_15 (by decide) ?_
      refine r_icmp_ne dX10_goesInto_16 rfl (fun q6 => ?_) (fun q6 => ?_)
      · rw [if_pos q6] at K1
        refine r_iconst dX10_goesInto_23 (by decide) ?_
        refine r_icmp_ne dX10_goesInto_24 rfl (fun q => absurd q (by decide)) (fun _ => ?_)
        refine r_iconst dX10_goesInto_27 (by decide) ?_
        refine r_goto (tgt := 32) dX10_goesInto_28 rfl ?_
        exact K1
      · rw [if_neg q6] at K1
        refine r_iconst dX10_goesInto_19 (by decide) ?_
        refine r_goto (tgt := 24) dX10_goesInto_20 rfl ?_
        refine r_icmp_ne dX10_goesInto_24 rfl (fun _ => ?_) (fun q => absurd (by decide) q)
        refine r_iconst dX10_goesInto_31 (by decide) ?_
        exact K1
    · rw [if_neg q4] at K1
      refine r_iconst dX10_goesInto_9 (by decide) ?_
      refine r_goto (tgt := 14) dX10_goesInto_10 rfl ?_
      refine r_iload_n dX10_goesInto_14 rfl ?_
      refine r_iconst dX10_goesInto_15 (by decide) ?_
      refine r_icmp_ne dX10_goesInto_16 rfl (fun q8 => ?_) (fun q8 => ?_)
      · rw [if_pos q8] at K1
        refine r_iconst dX10_goesInto_23 (by decide) ?_
        refine r_icmp_ne dX10_goesInto_24 rfl (fun _ => ?_) (fun q => absurd (by decide) q)
        refine r_iconst dX10_goesInto_31 (by decide) ?_
        exact K1
      · rw [if_neg q8] at K1
        refine r_iconst dX10_goesInto_19 (by decide) ?_
        refine r_goto (tgt := 24) dX10_goesInto_20 rfl ?_
        refine r_icmp_ne dX10_goesInto_24 rfl (fun q => absurd q (by decide)) (fun _ => ?_)
        refine r_iconst dX10_goesInto_27 (by decide) ?_
        refine r_goto (tgt := 32) dX10_goesInto_28 rfl ?_
        exact K1
theorem vc_within {e : Nat} {M : jM} {Q : Option jV → jM → Prop} {x : Int} {y : Int} {z : Int}  
  (h : Q (some (vI (if (0 : Int) ≤ (jcmp x y) then (if (jcmp x z) ≤ (0 : Int) then w32 x else z) else y))) M) :
  Call (e + 1) mX10_within [vL x, vI y, vI z] M Q := by
  show Run (e + 1) mX10_within 0 [some (vL x), none, some (vI y), some (vI z)] [] M Q
  refine r_lload_n dX10_within_0 rfl ?_
  refine r_iload_n dX10_within_1 rfl ?_
  refine r_i2l dX10_within_2 ?_
  refine r_lcmp dX10_within_3 ?_
  have K1 : Run (e + 1) mX10_within 24 [some (vL x), none, some (vI y), some (vI z)] [vI (if (0 : Int) ≤ (jcmp x y) then (if (jcmp x z) ≤ (0 : Int) then w32 x else z) else y)] M Q := by
    exact r_iret dX10_within_24 rfl h
  refine r_if_ge dX10_within_4 rfl (fun q2 => ?_) (fun q2 => ?_)
  · rw [if_pos q2] at K1
    refine r_lload_n dX10_within_11 rfl ?_
    refine r_iload_n dX10_within_12 rfl ?_
    refine r_i2l dX10_within_13 ?_
    refine r_lcmp dX10_within_14 ?_
    refine r_if_le dX10_within_15 rfl (fun q4 => ?_) (fun q4 => ?_)
    · rw [if_pos q4] at K1
      refine r_lload_n dX10_within_22 rfl ?_
      refine r_l2i dX10_within_23 ?_
      exact K1
    · rw [if_neg q4] at K1
      refine r_iload_n dX10_within_18 rfl ?_
      refine r_goto (tgt := 24) dX10_within_19 rfl ?_
      exact K1
  · rw [if_neg q2] at K1
    refine r_iload_n dX10_within_7 rfl ?_
    refine r_goto (tgt := 24) dX10_within_8 rfl ?_
    exact K1
theorem vc_asTold {e : Nat} {M : jM} {Q : Option jV → jM → Prop} {x : Int}  
  (h : Call e mX10_within [vL x, vI (0 : Int), vI (2147483647 : Int)] M (fun r4 M2 => ∃ z1 : Int, r4 = some (vI z1) ∧ Shp M2 ∧ (Q (some (vI z1)) M2))) :
  Call (e + 1) mX10_asTold [vL x] M Q := by
  show Run (e + 1) mX10_asTold 0 [some (vL x), none] [] M Q
  refine r_lload_n dX10_asTold_0 rfl ?_
  refine r_iconst dX10_asTold_1 (by decide) ?_
  refine r_ldc_w dX10_asTold_2 kK10_432 ?_
  refine r_invS_i dX10_asTold_5 (by decide) kXn10_433 kM10_433 (by decide) (Nat.le_of_ble_eq_true rfl) rfl rfl (Nat.le_of_ble_eq_true rfl) (Nat.le_of_ble_eq_true rfl) (Call.mono h (Nat.le_refl _) ?_)
  rintro _ M2 ⟨z1, rfl, s5, h3⟩
  refine ⟨_, rfl, ?_⟩
  exact r_iret dX10_asTold_8 rfl h3
theorem vc_heftOf {e : Nat} {M : jM} {Q : Option jV → jM → Prop} {x : Int}  
  (h : Run (e + 1) mX10_heftOf 5 [some (vL x), none, some (vI (0 : Int)), some (vI (32 : Int))] [] M Q) :
  Call (e + 1) mX10_heftOf [vL x] M Q := by
  show Run (e + 1) mX10_heftOf 0 [some (vL x), none, none, none] [] M Q
  refine r_iconst dX10_heftOf_0 (by decide) ?_
  refine r_istore_n (ls2 := [some (vL x), none, some (vI (0 : Int)), none]) dX10_heftOf_1 (Nat.le_of_ble_eq_true rfl) rfl ?_
  refine r_bipush dX10_heftOf_2 (by decide) ?_
  refine r_istore_n (ls2 := [some (vL x), none, some (vI (0 : Int)), some (vI (32 : Int))]) dX10_heftOf_4 (Nat.le_of_ble_eq_true rfl) rfl ?_
  exact h
theorem vc_grainOf {e : Nat} {M : jM} {Q : Option jV → jM → Prop} {x : Int}  
  (h : Call e mX10_heftOf [vL x] M (fun r4 M2 => ∃ z1 : Int, r4 = some (vI z1) ∧ Shp M2 ∧ (Q (some (vI (w32 (jandL (if z1 ≤ (23 : Int) then jshlL x (w32 ((23 : Int) - z1)) else jshrL x (w32 (z1 - (23 : Int)))) (8388607 : Int))))) M2))) :
  Call (e + 1) mX10_grainOf [vL x] M Q := by
  show Run (e + 1) mX10_grainOf 0 [some (vL x), none, none, none, none] [] M Q
  refine r_lload_n dX10_grainOf_0 rfl ?_
  refine r_invS_i dX10_grainOf_1 (by decide) kXn10_214 kM10_214 (by decide) (Nat.le_of_ble_eq_true rfl) rfl rfl (Nat.le_of_ble_eq_true rfl) (Nat.le_of_ble_eq_true rfl) (Call.mono h (Nat.le_refl _) ?_)
  rintro _ M2 ⟨z1, rfl, s5, h3⟩
  refine ⟨_, rfl, ?_⟩
  refine r_istore_n (ls2 := [some (vL x), none, some (vI z1), none, none]) dX10_grainOf_4 (Nat.le_of_ble_eq_true rfl) rfl ?_
  refine r_iload_n dX10_grainOf_5 rfl ?_
  refine r_bipush dX10_grainOf_6 (by decide) ?_
  have K6 : Run (e + 1) mX10_grainOf 26 [some (vL x), none, some (vI z1), none, none] [vL (if z1 ≤ (23 : Int) then jshlL x (w32 ((23 : Int) - z1)) else jshrL x (w32 (z1 - (23 : Int))))] M2 Q := by
    refine r_lstore_n (ls2 := [some (vL x), none, some (vI z1), some (vL (if z1 ≤ (23 : Int) then jshlL x (w32 ((23 : Int) - z1)) else jshrL x (w32 (z1 - (23 : Int))))), none]) dX10_grainOf_26 (Nat.le_of_ble_eq_true rfl) rfl ?_
    refine r_lload_n dX10_grainOf_27 rfl ?_
    refine r_ldc2 dX10_grainOf_28 kL10_439 ?_
    refine r_land dX10_grainOf_31 ?_
    refine r_l2i dX10_grainOf_32 ?_
    exact r_iret dX10_grainOf_33 rfl h3
  refine r_icmp_le dX10_grainOf_8 rfl (fun q7 => ?_) (fun q7 => ?_)
  · rw [if_pos q7] at K6
    refine r_lload_n dX10_grainOf_20 rfl ?_
    refine r_bipush dX10_grainOf_21 (by decide) ?_
    refine r_iload_n dX10_grainOf_23 rfl ?_
    refine r_isub dX10_grainOf_24 ?_
    refine r_lshl dX10_grainOf_25 ?_
    exact K6
  · rw [if_neg q7] at K6
    refine r_lload_n dX10_grainOf_11 rfl ?_
    refine r_iload_n dX10_grainOf_12 rfl ?_
    refine r_bipush dX10_grainOf_13 (by decide) ?_
    refine r_isub dX10_grainOf_15 ?_
    refine r_lshr dX10_grainOf_16 ?_
    refine r_goto (tgt := 26) dX10_grainOf_17 rfl ?_
    exact K6
