theorem vs_note {e : Nat} {M : jM} {Q : Option jV → jM → Prop} {a : Nat} {x : Int} {y : Int} (ha : isSt a = true) (he : 1 ≤ e) (hS : Shp M)
  (h : Call e mX7_thoughtCount [vR a] M (fun r4 M2 => ∃ z1 : Int, r4 = some (vI z1) ∧ Shp M2 ∧ (Q none (ptv M2 60 (a + 7) (jrem (iv M a 9) (60 : Int)) (jor (jor x (jshl y (8 : Int))) (jshl z1 (16 : Int))))))) :
  Call (e + 1) mX7_note [vR a, vI x, vI y] M Q := by
  show Run (e + 1) mX7_note 0 [some (vR a), some (vI x), some (vI y)] [] M Q
  refine r_aload_n dX7_note_0 rfl ?_
  refine r_getS (v := (a + 7)) dX7_note_1 kF7_30 (st_o hS ha) (st_f6 hS ha) ?_
  refine r_aload_n dX7_note_4 rfl ?_
  refine r_get0 dX7_note_5 kF7_75 (st_o hS ha) ?_
  refine r_bipush dX7_note_8 (by decide) ?_
  refine r_irem dX7_note_10 (by decide) ?_
  refine r_iload_n dX7_note_11 rfl ?_
  refine r_iload_n dX7_note_12 rfl ?_
  refine r_bipush dX7_note_13 (by decide) ?_
  refine r_ishl dX7_note_15 ?_
  refine r_ior dX7_note_16 ?_
  refine r_aload_n dX7_note_17 rfl ?_
  refine r_invV_i dX7_note_18 kM7_86 (by decide) (Nat.le_of_ble_eq_true rfl) rfl rfl (Nat.le_of_ble_eq_true rfl) (Nat.le_of_ble_eq_true rfl) (st_o hS ha) (Call.mono h (Nat.le_refl _) ?_)
  rintro _ M2 ⟨z1, rfl, s5, h3⟩
  refine ⟨_, rfl, ?_⟩
  refine r_bipush dX7_note_21 (by decide) ?_
  refine r_ishl dX7_note_23 ?_
  refine r_ior dX7_note_24 ?_
  refine r_invS_v dX7_note_25 (by decide) kXn7_33 kM7_33 (by decide) (Nat.le_of_ble_eq_true rfl) rfl rfl (Nat.le_of_ble_eq_true rfl) (Nat.le_of_ble_eq_true rfl) (c_put (by omega) (st_r7 s5 ha) (by have := st_6 ha; omega) ⟨rfl, ?_⟩)
  exact r_vret dX7_note_28 rfl h3
theorem vs_copyAll {e : Nat} {M : jM} {Q : Option jV → jM → Prop} {a : Nat} {b : Nat} (ha : isSt a = true) (hb : isSt b = true) (hab : a ≠ b) (he : 2 ≤ e) (hS : Shp M)
  (h : Q none (cpr (wi M (fCopy M a b)) (b + 7) (a + 7) 60)) :
  Call (e + 1) mX7_copyAll [vR a, vR b] M Q := by
  show Run (e + 1) mX7_copyAll 0 [some (vR a), some (vR b)] [] M Q
  refine r_aload_n dX7_copyAll_0 rfl ?_
  refine r_aload_n dX7_copyAll_1 rfl ?_
  refine r_invV_v dX7_copyAll_2 kM7_78 (by decide) (Nat.le_of_ble_eq_true rfl) rfl rfl (Nat.le_of_ble_eq_true rfl) (Nat.le_of_ble_eq_true rfl) (st_o hS ha) (s_copyMinds (by omega) hS ha hb hab ⟨rfl, ?_⟩)
  refine r_aload_n dX7_copyAll_5 rfl ?_
  refine r_getS (v := (b + 7)) dX7_copyAll_6 kF7_30 (st_o hS hb) (st_f6 hS hb) ?_
  refine r_aload_n dX7_copyAll_9 rfl ?_
  refine r_getS (v := (a + 7)) dX7_copyAll_10 kF7_30 (st_o hS ha) (st_f6 hS ha) ?_
  refine r_invS_v dX7_copyAll_13 (by decide) kXn7_62 kM7_62 (by decide) (Nat.le_of_ble_eq_true rfl) rfl rfl (Nat.le_of_ble_eq_true rfl) (Nat.le_of_ble_eq_true rfl) (c_copyRow (by omega) (st_r7 hS hb) (st_r7 hS ha) (by have := st_6 ha; omega) (by decide) ⟨rfl, ?_⟩)
  exact r_vret dX7_copyAll_16 rfl h
