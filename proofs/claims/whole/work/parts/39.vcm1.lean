theorem vn_worked {e : Nat} {M : jM} {Q : Option jV → jM → Prop} {c : Int} {a : Int} {b : Int} (he : 6 ≤ e) (hS : Shp M)
  (h : (c = 2 → (Q (some (vI (fB (w64 (a + b))))) M)) ∧ (c = 3 → (Q (some (vI (fB (w64 (a - b))))) M)) ∧ (c = 4 → (Q (some (vI (fB (w64 (a * b))))) M)) ∧ (c = 5 → ((((jcmp b (0 : Int)) ≠ (0 : Int)) → (b ≠ 0 ∧ (Q (some (vI (fB (jdivL a b)))) M))) ∧ (¬ ((jcmp b (0 : Int)) ≠ (0 : Int)) → (Q (some (vI (0 : Int))) M)))) ∧ (c = 6 → (Q (some (vI (if (jcmp a b) ≠ (0 : Int) then (0 : Int) else (1 : Int)))) M)) ∧ (c = 7 → (Q (some (vI (if (0 : Int) ≤ (jcmp a b) then (0 : Int) else (1 : Int)))) M)) ∧ (c = 8 → (Q (some (vI (if (jcmp a b) ≤ (0 : Int) then (0 : Int) else (1 : Int)))) M)) ∧ (c = 9 → (Q (some (vI (if (jcmp a (0 : Int)) ≠ (0 : Int) then (1 : Int) else (if (jcmp b (0 : Int)) = (0 : Int) then (0 : Int) else (1 : Int))))) M)) ∧ (c = 10 → (Q (some (vI (if (jcmp a (0 : Int)) = (0 : Int) then (0 : Int) else (if (jcmp b (0 : Int)) = (0 : Int) then (0 : Int) else (1 : Int))))) M)) ∧ ((c < 2 ∨ 10 < c) → (Q (some (vI (if (jcmp a (0 : Int)) ≠ (0 : Int) then (1 : Int) else (if (jcmp b (0 : Int)) = (0 : Int) then (0 : Int) else (1 : Int))))) M))) :
  Call (e + 1) mX11_worked [vI c, vL a, vL b] M Q := by
  show Run (e + 1) mX11_worked 0 [some (vI c), some (vL a), none, some (vL b), none] [] M Q
  refine r_iload_n dX11_worked_0 rfl ?_
  by_cases c1 : c < 2 ∨ 10 < c
  · refine r_tab_out (tgt := 144) dX11_worked_1 c1 rfl ?_
    refine r_lload_n dX11_worked_144 rfl ?_
    refine r_lconst0 dX11_worked_145 ?_
    refine r_lcmp dX11_worked_146 ?_
    have K4 : Run (e + 1) mX11_worked 161 [some (vI c), some (vL a), none, some (vL b), none] [vI (if (jcmp a (0 : Int)) ≠ (0 : Int) then (1 : Int) else (if (jcmp b (0 : Int)) = (0 : Int) then (0 : Int) else (1 : Int)))] M Q := by
      exact r_iret dX11_worked_161 rfl (h.2.2.2.2.2.2.2.2.2 c1)
    refine r_if_ne dX11_worked_147 rfl (fun q5 => ?_) (fun q5 => ?_)
    · rw [if_pos q5] at K4
      refine r_iconst dX11_worked_156 (by decide) ?_
      refine r_goto (tgt := 161) dX11_worked_157 rfl ?_
      exact K4
    · rw [if_neg q5] at K4
      refine r_lload_n dX11_worked_150 rfl ?_
      refine r_lconst0 dX11_worked_151 ?_
      refine r_lcmp dX11_worked_152 ?_
      refine r_if_eq dX11_worked_153 rfl (fun q7 => ?_) (fun q7 => ?_)
      · rw [if_pos q7] at K4
        refine r_iconst dX11_worked_160 (by decide) ?_
        exact K4
      · rw [if_neg q7] at K4
        refine r_iconst dX11_worked_156 (by decide) ?_
        refine r_goto (tgt := 161) dX11_worked_157 rfl ?_
        exact K4
  · rcases (show c = 2 ∨ c = 3 ∨ c = 4 ∨ c = 5 ∨ c = 6 ∨ c = 7 ∨ c = 8 ∨ c = 9 ∨ c = 10 by omega) with c1e | c1e | c1e | c1e | c1e | c1e | c1e | c1e | c1e
    · refine r_tab_eq (tgt := 52) dX11_worked_1 c1e (by decide) rfl rfl ?_
      refine r_lload_n dX11_worked_52 rfl ?_
      refine r_lload_n dX11_worked_53 rfl ?_
      refine r_ladd dX11_worked_54 ?_
      refine r_invS_i dX11_worked_55 (by decide) kXn11_212 kM11_212 (by decide) (Nat.le_of_ble_eq_true rfl) rfl rfl (Nat.le_of_ble_eq_true rfl) (Nat.le_of_ble_eq_true rfl) (m_bounded (by omega) hS ⟨_, rfl, ?_⟩)
      exact r_iret dX11_worked_58 rfl (h.1 c1e)
    · refine r_tab_eq (tgt := 59) dX11_worked_1 c1e (by decide) rfl rfl ?_
      refine r_lload_n dX11_worked_59 rfl ?_
      refine r_lload_n dX11_worked_60 rfl ?_
      refine r_lsub dX11_worked_61 ?_
      refine r_invS_i dX11_worked_62 (by decide) kXn11_212 kM11_212 (by decide) (Nat.le_of_ble_eq_true rfl) rfl rfl (Nat.le_of_ble_eq_true rfl) (Nat.le_of_ble_eq_true rfl) (m_bounded (by omega) hS ⟨_, rfl, ?_⟩)
      exact r_iret dX11_worked_65 rfl (h.2.1 c1e)
    · refine r_tab_eq (tgt := 66) dX11_worked_1 c1e (by decide) rfl rfl ?_
      refine r_lload_n dX11_worked_66 rfl ?_
      refine r_lload_n dX11_worked_67 rfl ?_
      refine r_lmul dX11_worked_68 ?_
      refine r_invS_i dX11_worked_69 (by decide) kXn11_212 kM11_212 (by decide) (Nat.le_of_ble_eq_true rfl) rfl rfl (Nat.le_of_ble_eq_true rfl) (Nat.le_of_ble_eq_true rfl) (m_bounded (by omega) hS ⟨_, rfl, ?_⟩)
      exact r_iret dX11_worked_72 rfl (h.2.2.1 c1e)
    · refine r_tab_eq (tgt := 73) dX11_worked_1 c1e (by decide) rfl rfl ?_
      refine r_lload_n dX11_worked_73 rfl ?_
      refine r_lconst0 dX11_worked_74 ?_
      refine r_lcmp dX11_worked_75 ?_
      refine r_if_ne dX11_worked_76 rfl (fun c2 => ?_) (fun c2 => ?_)
      · refine r_lload_n dX11_worked_83 rfl ?_
        refine r_lload_n dX11_worked_84 rfl ?_
        have ob3 := ((h.2.2.2.1 c1e).1 c2).1
        refine r_ldiv dX11_worked_85 ob3 ?_
        refine r_invS_i dX11_worked_86 (by decide) kXn11_212 kM11_212 (by decide) (Nat.le_of_ble_eq_true rfl) rfl rfl (Nat.le_of_ble_eq_true rfl) (Nat.le_of_ble_eq_true rfl) (m_bounded (by omega) hS ⟨_, rfl, ?_⟩)
        exact r_iret dX11_worked_89 rfl ((h.2.2.2.1 c1e).1 c2).2
      · refine r_iconst dX11_worked_79 (by decide) ?_
        refine r_goto (tgt := 89) dX11_worked_80 rfl ?_
        exact r_iret dX11_worked_89 rfl ((h.2.2.2.1 c1e).2 c2)
    · refine r_tab_eq (tgt := 90) dX11_worked_1 c1e (by decide) rfl rfl ?_
      refine r_lload_n dX11_worked_90 rfl ?_
      refine r_lload_n dX11_worked_91 rfl ?_
      refine r_lcmp dX11_worked_92 ?_
      have K9 : Run (e + 1) mX11_worked 101 [some (vI c), some (vL a), none, some (vL b), none] [vI (if (jcmp a b) ≠ (0 : Int) then (0 : Int) else (1 : Int))] M Q := by
        exact r_iret dX11_worked_101 rfl (h.2.2.2.2.1 c1e)
      refine r_if_ne dX11_worked_93 rfl (fun q10 => ?_) (fun q10 => ?_)
      · rw [if_pos q10] at K9
        refine r_iconst dX11_worked_100 (by decide) ?_
        exact K9
      · rw [if_neg q10] at K9
        refine r_iconst dX11_worked_96 (by decide) ?_
        refine r_goto (tgt := 101) dX11_worked_97 rfl ?_
        exact K9
    · refine r_tab_eq (tgt := 102) dX11_worked_1 c1e (by decide) rfl rfl ?_
      refine r_lload_n dX11_worked_102 rfl ?_
      refine r_lload_n dX11_worked_103 rfl ?_
      refine r_lcmp dX11_worked_104 ?_
      have K12 : Run (e + 1) mX11_worked 113 [some (vI c), some (vL a), none, some (vL b), none] [vI (if (0 : Int) ≤ (jcmp a b) then (0 : Int) else (1 : Int))] M Q := by
        exact r_iret dX11_worked_113 rfl (h.2.2.2.2.2.1 c1e)
      refine r_if_ge dX11_worked_105 rfl (fun q13 => ?_) (fun q13 => ?_)
      · rw [if_pos q13] at K12
        refine r_iconst dX11_worked_112 (by decide) ?_
        exact K12
      · rw [if_neg q13] at K12
        refine r_iconst dX11_worked_108 (by decide) ?_
        refine r_goto (tgt := 113) dX11_worked_109 rfl ?_
        exact K12
    · refine r_tab_eq (tgt := 114) dX11_worked_1 c1e (by decide) rfl rfl ?_
      refine r_lload_n dX11_worked_114 rfl ?_
      refine r_lload_n dX11_worked_115 rfl ?_
      refine r_lcmp dX11_worked_116 ?_
      have K15 : Run (e + 1) mX11_worked 125 [some (vI c), some (vL a), none, some (vL b), none] [vI (if (jcmp a b) ≤ (0 : Int) then (0 : Int) else (1 : Int))] M Q := by
        exact r_iret dX11_worked_125 rfl (h.2.2.2.2.2.2.1 c1e)
      refine r_if_le dX11_worked_117 rfl (fun q16 => ?_) (fun q16 => ?_)
      · rw [if_pos q16] at K15
        refine r_iconst dX11_worked_124 (by decide) ?_
        exact K15
      · rw [if_neg q16] at K15
        refine r_iconst dX11_worked_120 (by decide) ?_
        refine r_goto (tgt := 125) dX11_worked_121 rfl ?_
        exact K15
    · refine r_tab_eq (tgt := 144) dX11_worked_1 c1e (by decide) rfl rfl ?_
      refine r_lload_n dX11_worked_144 rfl ?_
      refine r_lconst0 dX11_worked_145 ?_
      refine r_lcmp dX11_worked_146 ?_
      have K18 : Run (e + 1) mX11_worked 161 [some (vI c), some (vL a), none, some (vL b), none] [vI (if (jcmp a (0 : Int)) ≠ (0 : Int) then (1 : Int) else (if (jcmp b (0 : Int)) = (0 : Int) then (0 : Int) else (1 : Int)))] M Q := by
        exact r_iret dX11_worked_161 rfl (h.2.2.2.2.2.2.2.1 c1e)
      refine r_if_ne dX11_worked_147 rfl (fun q19 => ?_) (fun q19 => ?_)
      · rw [if_pos q19] at K18
        refine r_iconst dX11_worked_156 (by decide) ?_
        refine r_goto (tgt := 161) dX11_worked_157 rfl ?_
        exact K18
      · rw [if_neg q19] at K18
        refine r_lload_n dX11_worked_150 rfl ?_
        refine r_lconst0 dX11_worked_151 ?_
        refine r_lcmp dX11_worked_152 ?_
        refine r_if_eq dX11_worked_153 rfl (fun q21 => ?_) (fun q21 => ?_)
        · rw [if_pos q21] at K18
          refine r_iconst dX11_worked_160 (by decide) ?_
          exact K18
        · rw [if_neg q21] at K18
          refine r_iconst dX11_worked_156 (by decide) ?_
          refine r_goto (tgt := 161) dX11_worked_157 rfl ?_
          exact K18
    · refine r_tab_eq (tgt := 126) dX11_worked_1 c1e (by decide) rfl rfl ?_
      refine r_lload_n dX11_worked_126 rfl ?_
      refine r_lconst0 dX11_worked_127 ?_
      refine r_lcmp dX11_worked_128 ?_
      have K23 : Run (e + 1) mX11_worked 143 [some (vI c), some (vL a), none, some (vL b), none] [vI (if (jcmp a (0 : Int)) = (0 : Int) then (0 : Int) else (if (jcmp b (0 : Int)) = (0 : Int) then (0 : Int) else (1 : Int)))] M Q := by
        exact r_iret dX11_worked_143 rfl (h.2.2.2.2.2.2.2.2.1 c1e)
      refine r_if_eq dX11_worked_129 rfl (fun q24 => ?_) (fun q24 => ?_)
      · rw [if_pos q24] at K23
        refine r_iconst dX11_worked_142 (by decide) ?_
        exact K23
      · rw [if_neg q24] at K23
        refine r_lload_n dX11_worked_132 rfl ?_
        refine r_lconst0 dX11_worked_133 ?_
        refine r_lcmp dX11_worked_134 ?_
        refine r_if_eq dX11_worked_135 rfl (fun q26 => ?_) (fun q26 => ?_)
        · rw [if_pos q26] at K23
          refine r_iconst dX11_worked_142 (by decide) ?_
          exact K23
        · rw [if_neg q26] at K23
          refine r_iconst dX11_worked_138 (by decide) ?_
          refine r_goto (tgt := 143) dX11_worked_139 rfl ?_
          exact K23
theorem vn_workOut {e : Nat} {M : jM} {Q : Option jV → jM → Prop} {n : Int} {fr : Int} {to : Int} (he : 6 ≤ e) (hS : Shp M)
  (h : Run (e + 1) mX11_workOut 12 [some (vR 468), some (vI n), some (vI fr), some (vI to), some (vI (0 : Int)), some (vI (w32 ((w32 ((520 : Int) * n)) + fr)))] [] M Q) :
  Call (e + 1) mX11_workOut [vR 468, vI n, vI fr, vI to] M Q := by
  show Run (e + 1) mX11_workOut 0 [some (vR 468), some (vI n), some (vI fr), some (vI to), none, none] [] M Q
  refine r_iconst dX11_workOut_0 (by decide) ?_
  refine r_istore (ls2 := [some (vR 468), some (vI n), some (vI fr), some (vI to), some (vI (0 : Int)), none]) dX11_workOut_1 (Nat.le_of_ble_eq_true rfl) rfl ?_
  refine r_sipush dX11_workOut_3 (by decide) ?_
  refine r_iload_n dX11_workOut_6 rfl ?_
  refine r_imul dX11_workOut_7 ?_
  refine r_iload_n dX11_workOut_8 rfl ?_
  refine r_iadd dX11_workOut_9 ?_
  refine r_istore (ls2 := [some (vR 468), some (vI n), some (vI fr), some (vI to), some (vI (0 : Int)), some (vI (w32 ((w32 ((520 : Int) * n)) + fr)))]) dX11_workOut_10 (Nat.le_of_ble_eq_true rfl) rfl ?_
  exact h
theorem vn_workOut_12 {e : Nat} {M : jM} {Q : Option jV → jM → Prop} {n : Int} {fr : Int} {to : Int} {l4 : Int} {l5 : Int}  (he : 6 ≤ e) (hS : Shp M)
  (h : (((w32 ((w32 ((520 : Int) * n)) + to)) ≤ l5) → (Q (some (vI (iv M 478 0))) M)) ∧ (¬ ((w32 ((w32 ((520 : Int) * n)) + to)) ≤ l5) → ((0 ≤ l5 ∧ l5 < 2600) ∧ ((((iv M 470 (l5).toNat) = (0 : Int)) → ((((iv M 470 (l5).toNat) ≠ (0 : Int)) → ((0 ≤ (iv M 471 (l5).toNat) ∧ (iv M 471 (l5).toNat) < 6) ∧ ((0 ≤ l4 ∧ l4 < 80) ∧ (∀ N7 : jM, N7 = (si M 478 (l4).toNat (iv M 477 (iv M 471 (l5).toNat).toNat)) → Shp N7 → (Run (e + 1) mX11_workOut 12 [some (vR 468), some (vI n), some (vI fr), some (vI to), some (vI (w32 (l4 + (1 : Int)))), some (vI (w32 (l5 + (1 : Int))))] [] N7 Q))))) ∧ (¬ ((iv M 470 (l5).toNat) ≠ (0 : Int)) → ((0 ≤ l4 ∧ l4 < 80) ∧ (∀ N10 : jM, N10 = (si M 478 (l4).toNat (iv M 471 (l5).toNat)) → Shp N10 → (Run (e + 1) mX11_workOut 12 [some (vR 468), some (vI n), some (vI fr), some (vI to), some (vI (w32 (l4 + (1 : Int)))), some (vI (w32 (l5 + (1 : Int))))] [] N10 Q)))))) ∧ (¬ ((iv M 470 (l5).toNat) = (0 : Int)) → ((((iv M 470 (l5).toNat) ≠ (1 : Int)) → ((((iv M 470 (l5).toNat) ≠ (9 : Int)) → ((0 ≤ (w32 ((w32 (l4 + (-1 : Int))) - (1 : Int))) ∧ (w32 ((w32 (l4 + (-1 : Int))) - (1 : Int))) < 80) ∧ ((0 ≤ (w32 (l4 + (-1 : Int))) ∧ (w32 (l4 + (-1 : Int))) < 80) ∧ (Call e mX11_worked [vI (iv M 470 (l5).toNat), vL (iv M 478 (w32 ((w32 (l4 + (-1 : Int))) - (1 : Int))).toNat), vL (iv M 478 (w32 (l4 + (-1 : Int))).toNat)] M (fun r19 M17 => ∃ z16 : Int, r19 = some (vI z16) ∧ Shp M17 ∧ (∀ N21 : jM, N21 = (si M17 478 (w32 ((w32 (l4 + (-1 : Int))) - (1 : Int))).toNat z16) → Shp N21 → (Run (e + 1) mX11_workOut 12 [some (vR 468), some (vI n), some (vI fr), some (vI to), some (vI (w32 (l4 + (-1 : Int)))), some (vI (w32 (l5 + (1 : Int))))] [] N21 Q))))))) ∧ (¬ ((iv M 470 (l5).toNat) ≠ (9 : Int)) → ((0 ≤ (w32 (l4 - (1 : Int))) ∧ (w32 (l4 - (1 : Int))) < 80) ∧ (∀ N24 : jM, N24 = (si M 478 (w32 (l4 - (1 : Int))).toNat (w32 ((1 : Int) - (iv M 478 (w32 (l4 - (1 : Int))).toNat)))) → Shp N24 → (Run (e + 1) mX11_workOut 12 [some (vR 468), some (vI n), some (vI fr), some (vI to), some (vI l4), some (vI (w32 (l5 + (1 : Int))))] [] N24 Q)))))) ∧ (¬ ((iv M 470 (l5).toNat) ≠ (1 : Int)) → ((((iv M 470 (l5).toNat) ≠ (0 : Int)) → ((0 ≤ (iv M 471 (l5).toNat) ∧ (iv M 471 (l5).toNat) < 6) ∧ ((0 ≤ l4 ∧ l4 < 80) ∧ (∀ N29 : jM, N29 = (si M 478 (l4).toNat (iv M 477 (iv M 471 (l5).toNat).toNat)) → Shp N29 → (Run (e + 1) mX11_workOut 12 [some (vR 468), some (vI n), some (vI fr), some (vI to), some (vI (w32 (l4 + (1 : Int)))), some (vI (w32 (l5 + (1 : Int))))] [] N29 Q))))) ∧ (¬ ((iv M 470 (l5).toNat) ≠ (0 : Int)) → ((0 ≤ l4 ∧ l4 < 80) ∧ (∀ N32 : jM, N32 = (si M 478 (l4).toNat (iv M 471 (l5).toNat)) → Shp N32 → (Run (e + 1) mX11_workOut 12 [some (vR 468), some (vI n), some (vI fr), some (vI to), some (vI (w32 (l4 + (1 : Int)))), some (vI (w32 (l5 + (1 : Int))))] [] N32 Q)))))))))))) :
  Run (e + 1) mX11_workOut 12 [some (vR 468), some (vI n), some (vI fr), some (vI to), some (vI l4), some (vI l5)] [] M Q := by
  refine r_iload dX11_workOut_12 rfl ?_
  refine r_sipush dX11_workOut_14 (by decide) ?_
  refine r_iload_n dX11_workOut_17 rfl ?_
  refine r_imul dX11_workOut_18 ?_
  refine r_iload_n dX11_workOut_19 rfl ?_
  refine r_iadd dX11_workOut_20 ?_
  refine r_icmp_ge dX11_workOut_21 rfl (fun c1 => ?_) (fun c1 => ?_)
  · refine r_aload_n dX11_workOut_171 rfl ?_
    refine r_getS (v := 478) dX11_workOut_172 kF11_37 (sh_o hS kk468 (by decide)) (sh_f hS rr468_16 (by decide)) ?_
    refine r_iconst dX11_workOut_175 (by decide) ?_
    refine r_ialoadK (k := 0) dX11_workOut_176 rfl (jro_ix (n := 80) (sh_r hS kk478 (by decide)) (by decide)) ?_
    exact r_iret dX11_workOut_177 rfl (h.1 c1)
  · refine r_aload_n dX11_workOut_24 rfl ?_
    refine r_getS (v := 470) dX11_workOut_25 kF11_13 (sh_o hS kk468 (by decide)) (sh_f hS rr468_6 (by decide)) ?_
    refine r_iload dX11_workOut_28 rfl ?_
    have ob2 := (h.2 c1).1
    refine r_iaload dX11_workOut_30 (jro_ix (sh_r hS kk470 (by decide)) ob2) ?_
    refine r_if_eq dX11_workOut_31 rfl (fun c3 => ?_) (fun c3 => ?_)
    · refine r_aload_n dX11_workOut_45 rfl ?_
      refine r_getS (v := 478) dX11_workOut_46 kF11_37 (sh_o hS kk468 (by decide)) (sh_f hS rr468_16 (by decide)) ?_
      refine r_iload dX11_workOut_49 rfl ?_
      refine r_aload_n dX11_workOut_51 rfl ?_
      refine r_getS (v := 470) dX11_workOut_52 kF11_13 (sh_o hS kk468 (by decide)) (sh_f hS rr468_6 (by decide)) ?_
      refine r_iload dX11_workOut_55 rfl ?_
      refine r_iaload dX11_workOut_57 (jro_ix (sh_r hS kk470 (by decide)) ob2) ?_
      refine r_if_ne dX11_workOut_58 rfl (fun c4 => ?_) (fun c4 => ?_)
      · refine r_aload_n dX11_workOut_71 rfl ?_
        refine r_getS (v := 477) dX11_workOut_72 kF11_34 (sh_o hS kk468 (by decide)) (sh_f hS rr468_15 (by decide)) ?_
        refine r_aload_n dX11_workOut_75 rfl ?_
        refine r_getS (v := 471) dX11_workOut_76 kF11_16 (sh_o hS kk468 (by decide)) (sh_f hS rr468_7 (by decide)) ?_
        refine r_iload dX11_workOut_79 rfl ?_
        refine r_iaload dX11_workOut_81 (jro_ix (sh_r hS kk471 (by decide)) ob2) ?_
        have ob5 := (((h.2 c1).2.1 c3).1 c4).1
        refine r_iaload dX11_workOut_82 (jro_ix (sh_r hS kk477 (by decide)) ob5) ?_
        have ob6 := (((h.2 c1).2.1 c3).1 c4).2.1
        refine r_iastore dX11_workOut_83 ⟨jro_ix (sh_r hS kk478 (by decide)) ob6, (by decide)⟩ ?_
        have K35 : ∀ N7 : jM, N7 = (si M 478 (l4).toNat (iv M 477 (iv M 471 (l5).toNat).toNat)) → Run (e + 1) mX11_workOut 84 [some (vR 468), some (vI n), some (vI fr), some (vI to), some (vI l4), some (vI l5)] [] N7 Q := by
          intro N7 hN34
          have sN8 : Shp N7 := by rw [hN34]; exact hS
          refine r_iinc (ls2 := [some (vR 468), some (vI n), some (vI fr), some (vI to), some (vI (w32 (l4 + (1 : Int)))), some (vI l5)]) dX11_workOut_84 rfl rfl ?_
          refine r_goto (tgt := 165) dX11_workOut_87 rfl ?_
          refine r_iinc (ls2 := [some (vR 468), some (vI n), some (vI fr), some (vI to), some (vI (w32 (l4 + (1 : Int)))), some (vI (w32 (l5 + (1 : Int))))]) dX11_workOut_165 rfl rfl ?_
          refine r_goto (tgt := 12) dX11_workOut_168 rfl ?_
          exact ((((h.2 c1).2.1 c3).1 c4).2.2 N7 hN34 sN8)
        exact K35 _ rfl
      · refine r_aload_n dX11_workOut_61 rfl ?_
        refine r_getS (v := 471) dX11_workOut_62 kF11_16 (sh_o hS kk468 (by decide)) (sh_f hS rr468_7 (by decide)) ?_
        refine r_iload dX11_workOut_65 rfl ?_
        refine r_iaload dX11_workOut_67 (jro_ix (sh_r hS kk471 (by decide)) ob2) ?_
        refine r_goto (tgt := 83) dX11_workOut_68 rfl ?_
        have ob9 := (((h.2 c1).2.1 c3).2 c4).1
        refine r_iastore dX11_workOut_83 ⟨jro_ix (sh_r hS kk478 (by decide)) ob9, (by decide)⟩ ?_
        have K37 : ∀ N10 : jM, N10 = (si M 478 (l4).toNat (iv M 471 (l5).toNat)) → Run (e + 1) mX11_workOut 84 [some (vR 468), some (vI n), some (vI fr), some (vI to), some (vI l4), some (vI l5)] [] N10 Q := by
          intro N10 hN36
          have sN11 : Shp N10 := by rw [hN36]; exact hS
          refine r_iinc (ls2 := [some (vR 468), some (vI n), some (vI fr), some (vI to), some (vI (w32 (l4 + (1 : Int)))), some (vI l5)]) dX11_workOut_84 rfl rfl ?_
          refine r_goto (tgt := 165) dX11_workOut_87 rfl ?_
          refine r_iinc (ls2 := [some (vR 468), some (vI n), some (vI fr), some (vI to), some (vI (w32 (l4 + (1 : Int)))), some (vI (w32 (l5 + (1 : Int))))]) dX11_workOut_165 rfl rfl ?_
          refine r_goto (tgt := 12) dX11_workOut_168 rfl ?_
          exact ((((h.2 c1).2.1 c3).2 c4).2 N10 hN36 sN11)
        exact K37 _ rfl
    · refine r_aload_n dX11_workOut_34 rfl ?_
      refine r_getS (v := 470) dX11_workOut_35 kF11_13 (sh_o hS kk468 (by decide)) (sh_f hS rr468_6 (by decide)) ?_
      refine r_iload dX11_workOut_38 rfl ?_
      refine r_iaload dX11_workOut_40 (jro_ix (sh_r hS kk470 (by decide)) ob2) ?_
      refine r_iconst dX11_workOut_41 (by decide) ?_
      refine r_icmp_ne dX11_workOut_42 rfl (fun c12 => ?_) (fun c12 => ?_)
      · refine r_aload_n dX11_workOut_90 rfl ?_
        refine r_getS (v := 470) dX11_workOut_91 kF11_13 (sh_o hS kk468 (by decide)) (sh_f hS rr468_6 (by decide)) ?_
        refine r_iload dX11_workOut_94 rfl ?_
        refine r_iaload dX11_workOut_96 (jro_ix (sh_r hS kk470 (by decide)) ob2) ?_
        refine r_bipush dX11_workOut_97 (by decide) ?_
        refine r_icmp_ne dX11_workOut_99 rfl (fun c13 => ?_) (fun c13 => ?_)
        · refine r_iinc (ls2 := [some (vR 468), some (vI n), some (vI fr), some (vI to), some (vI (w32 (l4 + (-1 : Int)))), some (vI l5)]) dX11_workOut_125 rfl rfl ?_
          refine r_aload_n dX11_workOut_128 rfl ?_
          refine r_getS (v := 478) dX11_workOut_129 kF11_37 (sh_o hS kk468 (by decide)) (sh_f hS rr468_16 (by decide)) ?_
          refine r_iload dX11_workOut_132 rfl ?_
          refine r_iconst dX11_workOut_134 (by decide) ?_
          refine r_isub dX11_workOut_135 ?_
          refine r_aload_n dX11_workOut_136 rfl ?_
          refine r_getS (v := 470) dX11_workOut_137 kF11_13 (sh_o hS kk468 (by decide)) (sh_f hS rr468_6 (by decide)) ?_
          refine r_iload dX11_workOut_140 rfl ?_
          refine r_iaload dX11_workOut_142 (jro_ix (sh_r hS kk470 (by decide)) ob2) ?_
          refine r_aload_n dX11_workOut_143 rfl ?_
          refine r_getS (v := 478) dX11_workOut_144 kF11_37 (sh_o hS kk468 (by decide)) (sh_f hS rr468_16 (by decide)) ?_
          refine r_iload dX11_workOut_147 rfl ?_
          refine r_iconst dX11_workOut_149 (by decide) ?_
          refine r_isub dX11_workOut_150 ?_
          have ob14 := ((((h.2 c1).2.2 c3).1 c12).1 c13).1
          refine r_iaload dX11_workOut_151 (jro_ix (sh_r hS kk478 (by decide)) ob14) ?_
          refine r_i2l dX11_workOut_152 ?_
          refine r_aload_n dX11_workOut_153 rfl ?_
          refine r_getS (v := 478) dX11_workOut_154 kF11_37 (sh_o hS kk468 (by decide)) (sh_f hS rr468_16 (by decide)) ?_
          refine r_iload dX11_workOut_157 rfl ?_
          have ob15 := ((((h.2 c1).2.2 c3).1 c12).1 c13).2.1
          refine r_iaload dX11_workOut_159 (jro_ix (sh_r hS kk478 (by decide)) ob15) ?_
          refine r_i2l dX11_workOut_160 ?_
          refine r_invS_i dX11_workOut_161 (by decide) kXn11_216 kM11_216 (by decide) (Nat.le_of_ble_eq_true rfl) rfl rfl (Nat.le_of_ble_eq_true rfl) (Nat.le_of_ble_eq_true rfl) (Call.mono ((((h.2 c1).2.2 c3).1 c12).1 c13).2.2 (Nat.le_refl _) ?_)
          rintro _ M17 ⟨z16, rfl, s20, h18⟩
          refine ⟨_, rfl, ?_⟩
          refine r_iastore dX11_workOut_164 ⟨jro_ix (sh_r s20 kk478 (by decide)) ob14, (by decide)⟩ ?_
          have K39 : ∀ N21 : jM, N21 = (si M17 478 (w32 ((w32 (l4 + (-1 : Int))) - (1 : Int))).toNat z16) → Run (e + 1) mX11_workOut 165 [some (vR 468), some (vI n), some (vI fr), some (vI to), some (vI (w32 (l4 + (-1 : Int)))), some (vI l5)] [] N21 Q := by
            intro N21 hN38
            have sN22 : Shp N21 := by rw [hN38]; exact s20
            refine r_iinc (ls2 := [some (vR 468), some (vI n), some (vI fr), some (vI to), some (vI (w32 (l4 + (-1 : Int)))), some (vI (w32 (l5 + (1 : Int))))]) dX11_workOut_165 rfl rfl ?_
            refine r_goto (tgt := 12) dX11_workOut_168 rfl ?_
            exact (h18 N21 hN38 sN22)
          exact K39 _ rfl
        · refine r_aload_n dX11_workOut_102 rfl ?_
          refine r_getS (v := 478) dX11_workOut_103 kF11_37 (sh_o hS kk468 (by decide)) (sh_f hS rr468_16 (by decide)) ?_
          refine r_iload dX11_workOut_106 rfl ?_
          refine r_iconst dX11_workOut_108 (by decide) ?_
          refine r_isub dX11_workOut_109 ?_
          refine r_iconst dX11_workOut_110 (by decide) ?_
          refine r_aload_n dX11_workOut_111 rfl ?_
          refine r_getS (v := 478) dX11_workOut_112 kF11_37 (sh_o hS kk468 (by decide)) (sh_f hS rr468_16 (by decide)) ?_
          refine r_iload dX11_workOut_115 rfl ?_
          refine r_iconst dX11_workOut_117 (by decide) ?_
          refine r_isub dX11_workOut_118 ?_
          have ob23 := ((((h.2 c1).2.2 c3).1 c12).2 c13).1
          refine r_iaload dX11_workOut_119 (jro_ix (sh_r hS kk478 (by decide)) ob23) ?_
          refine r_isub dX11_workOut_120 ?_
          refine r_iastore dX11_workOut_121 ⟨jro_ix (sh_r hS kk478 (by decide)) ob23, (by decide)⟩ ?_
          have K41 : ∀ N24 : jM, N24 = (si M 478 (w32 (l4 - (1 : Int))).toNat (w32 ((1 : Int) - (iv M 478 (w32 (l4 - (1 : Int))).toNat)))) → Run (e + 1) mX11_workOut 122 [some (vR 468), some (vI n), some (vI fr), some (vI to), some (vI l4), some (vI l5)] [] N24 Q := by
            intro N24 hN40
            have sN25 : Shp N24 := by rw [hN40]; exact hS
            refine r_goto (tgt := 165) dX11_workOut_122 rfl ?_
            refine r_iinc (ls2 := [some (vR 468), some (vI n), some (vI fr), some (vI to), some (vI l4), some (vI (w32 (l5 + (1 : Int))))]) dX11_workOut_165 rfl rfl ?_
            refine r_goto (tgt := 12) dX11_workOut_168 rfl ?_
            exact (((((h.2 c1).2.2 c3).1 c12).2 c13).2 N24 hN40 sN25)
          exact K41 _ rfl
      · refine r_aload_n dX11_workOut_45 rfl ?_
        refine r_getS (v := 478) dX11_workOut_46 kF11_37 (sh_o hS kk468 (by decide)) (sh_f hS rr468_16 (by decide)) ?_
        refine r_iload dX11_workOut_49 rfl ?_
        refine r_aload_n dX11_workOut_51 rfl ?_
        refine r_getS (v := 470) dX11_workOut_52 kF11_13 (sh_o hS kk468 (by decide)) (sh_f hS rr468_6 (by decide)) ?_
        refine r_iload dX11_workOut_55 rfl ?_
        refine r_iaload dX11_workOut_57 (jro_ix (sh_r hS kk470 (by decide)) ob2) ?_
        refine r_if_ne dX11_workOut_58 rfl (fun c26 => ?_) (fun c26 => ?_)
        · refine r_aload_n dX11_workOut_71 rfl ?_
          refine r_getS (v := 477) dX11_workOut_72 kF11_34 (sh_o hS kk468 (by decide)) (sh_f hS rr468_15 (by decide)) ?_
          refine r_aload_n dX11_workOut_75 rfl ?_
          refine r_getS (v := 471) dX11_workOut_76 kF11_16 (sh_o hS kk468 (by decide)) (sh_f hS rr468_7 (by decide)) ?_
          refine r_iload dX11_workOut_79 rfl ?_
          refine r_iaload dX11_workOut_81 (jro_ix (sh_r hS kk471 (by decide)) ob2) ?_
          have ob27 := ((((h.2 c1).2.2 c3).2 c12).1 c26).1
          refine r_iaload dX11_workOut_82 (jro_ix (sh_r hS kk477 (by decide)) ob27) ?_
          have ob28 := ((((h.2 c1).2.2 c3).2 c12).1 c26).2.1
          refine r_iastore dX11_workOut_83 ⟨jro_ix (sh_r hS kk478 (by decide)) ob28, (by decide)⟩ ?_
          have K43 : ∀ N29 : jM, N29 = (si M 478 (l4).toNat (iv M 477 (iv M 471 (l5).toNat).toNat)) → Run (e + 1) mX11_workOut 84 [some (vR 468), some (vI n), some (vI fr), some (vI to), some (vI l4), some (vI l5)] [] N29 Q := by
            intro N29 hN42
            have sN30 : Shp N29 := by rw [hN42]; exact hS
            refine r_iinc (ls2 := [some (vR 468), some (vI n), some (vI fr), some (vI to), some (vI (w32 (l4 + (1 : Int)))), some (vI l5)]) dX11_workOut_84 rfl rfl ?_
            refine r_goto (tgt := 165) dX11_workOut_87 rfl ?_
            refine r_iinc (ls2 := [some (vR 468), some (vI n), some (vI fr), some (vI to), some (vI (w32 (l4 + (1 : Int)))), some (vI (w32 (l5 + (1 : Int))))]) dX11_workOut_165 rfl rfl ?_
            refine r_goto (tgt := 12) dX11_workOut_168 rfl ?_
            exact (((((h.2 c1).2.2 c3).2 c12).1 c26).2.2 N29 hN42 sN30)
          exact K43 _ rfl
        · refine r_aload_n dX11_workOut_61 rfl ?_
          refine r_getS (v := 471) dX11_workOut_62 kF11_16 (sh_o hS kk468 (by decide)) (sh_f hS rr468_7 (by decide)) ?_
          refine r_iload dX11_workOut_65 rfl ?_
          refine r_iaload dX11_workOut_67 (jro_ix (sh_r hS kk471 (by decide)) ob2) ?_
          refine r_goto (tgt := 83) dX11_workOut_68 rfl ?_
          have ob31 := ((((h.2 c1).2.2 c3).2 c12).2 c26).1
          refine r_iastore dX11_workOut_83 ⟨jro_ix (sh_r hS kk478 (by decide)) ob31, (by decide)⟩ ?_
          have K45 : ∀ N32 : jM, N32 = (si M 478 (l4).toNat (iv M 471 (l5).toNat)) → Run (e + 1) mX11_workOut 84 [some (vR 468), some (vI n), some (vI fr), some (vI to), some (vI l4), some (vI l5)] [] N32 Q := by
            intro N32 hN44
            have sN33 : Shp N32 := by rw [hN44]; exact hS
            refine r_iinc (ls2 := [some (vR 468), some (vI n), some (vI fr), some (vI to), some (vI (w32 (l4 + (1 : Int)))), some (vI l5)]) dX11_workOut_84 rfl rfl ?_
            refine r_goto (tgt := 165) dX11_workOut_87 rfl ?_
            refine r_iinc (ls2 := [some (vR 468), some (vI n), some (vI fr), some (vI to), some (vI (w32 (l4 + (1 : Int)))), some (vI (w32 (l5 + (1 : Int))))]) dX11_workOut_165 rfl rfl ?_
            refine r_goto (tgt := 12) dX11_workOut_168 rfl ?_
            exact (((((h.2 c1).2.2 c3).2 c12).2 c26).2 N32 hN44 sN33)
          exact K45 _ rfl
theorem vn_worthOf {e : Nat} {M : jM} {Q : Option jV → jM → Prop} {n : Int} (he : 6 ≤ e) (hS : Shp M)
  (h : Run (e + 1) mX11_worthOf 6 [some (vR 468), some (vI n), some (vI (w32 ((140 : Int) * n)))] [] M Q) :
  Call (e + 1) mX11_worthOf [vR 468, vI n] M Q := by
  show Run (e + 1) mX11_worthOf 0 [some (vR 468), some (vI n), none] [] M Q
  refine r_sipush dX11_worthOf_0 (by decide) ?_
  refine r_iload_n dX11_worthOf_3 rfl ?_
  refine r_imul dX11_worthOf_4 ?_
  refine r_istore_n (ls2 := [some (vR 468), some (vI n), some (vI (w32 ((140 : Int) * n)))]) dX11_worthOf_5 (Nat.le_of_ble_eq_true rfl) rfl ?_
  exact h
theorem vn_worthOf_6 {e : Nat} {M : jM} {Q : Option jV → jM → Prop} {n : Int} {l2 : Int}  (he : 6 ≤ e) (hS : Shp M)
  (h : (0 ≤ n ∧ n < 5) ∧ ((((w32 ((w32 ((140 : Int) * n)) + (iv M 473 (n).toNat))) ≤ l2) → (Q (some (vI (0 : Int))) M)) ∧ (¬ ((w32 ((w32 ((140 : Int) * n)) + (iv M 473 (n).toNat))) ≤ l2) → ((0 ≤ l2 ∧ l2 < 700) ∧ ((((iv M 474 (l2).toNat) = (iv M 475 (l2).toNat)) → (Call e mX11_workOut [vR 468, vI n, vI (iv M 475 (l2).toNat), vI (iv M 476 (l2).toNat)] M (fun r8 M6 => ∃ z5 : Int, r8 = some (vI z5) ∧ Shp M6 ∧ (Q (some (vI z5)) M6)))) ∧ (¬ ((iv M 474 (l2).toNat) = (iv M 475 (l2).toNat)) → (Call e mX11_workOut [vR 468, vI n, vI (iv M 474 (l2).toNat), vI (iv M 475 (l2).toNat)] M (fun r13 M11 => ∃ z10 : Int, r13 = some (vI z10) ∧ Shp M11 ∧ (((z10 = (0 : Int)) → (Run (e + 1) mX11_worthOf 6 [some (vR 468), some (vI n), some (vI (w32 (l2 + (1 : Int))))] [] M11 Q)) ∧ (¬ (z10 = (0 : Int)) → (Call e mX11_workOut [vR 468, vI n, vI (iv M11 475 (l2).toNat), vI (iv M11 476 (l2).toNat)] M11 (fun r19 M17 => ∃ z16 : Int, r19 = some (vI z16) ∧ Shp M17 ∧ (Q (some (vI z16)) M17))))))))))))) :
  Run (e + 1) mX11_worthOf 6 [some (vR 468), some (vI n), some (vI l2)] [] M Q := by
  refine r_iload_n dX11_worthOf_6 rfl ?_
  refine r_sipush dX11_worthOf_7 (by decide) ?_
  refine r_iload_n dX11_worthOf_10 rfl ?_
  refine r_imul dX11_worthOf_11 ?_
  refine r_aload_n dX11_worthOf_12 rfl ?_
  refine r_getS (v := 473) dX11_worthOf_13 kF11_22 (sh_o hS kk468 (by decide)) (sh_f hS rr468_9 (by decide)) ?_
  refine r_iload_n dX11_worthOf_16 rfl ?_
  have ob1 := h.1
  refine r_iaload dX11_worthOf_17 (jro_ix (sh_r hS kk473 (by decide)) ob1) ?_
  refine r_iadd dX11_worthOf_18 ?_
  refine r_icmp_ge dX11_worthOf_19 rfl (fun c2 => ?_) (fun c2 => ?_)
  · refine r_iconst dX11_worthOf_81 (by decide) ?_
    exact r_iret dX11_worthOf_82 rfl (h.2.1 c2)
  · refine r_aload_n dX11_worthOf_22 rfl ?_
    refine r_getS (v := 474) dX11_worthOf_23 kF11_25 (sh_o hS kk468 (by decide)) (sh_f hS rr468_10 (by decide)) ?_
    refine r_iload_n dX11_worthOf_26 rfl ?_
    have ob3 := (h.2.2 c2).1
    refine r_iaload dX11_worthOf_27 (jro_ix (sh_r hS kk474 (by decide)) ob3) ?_
    refine r_aload_n dX11_worthOf_28 rfl ?_
    refine r_getS (v := 475) dX11_worthOf_29 kF11_28 (sh_o hS kk468 (by decide)) (sh_f hS rr468_11 (by decide)) ?_
    refine r_iload_n dX11_worthOf_32 rfl ?_
    refine r_iaload dX11_worthOf_33 (jro_ix (sh_r hS kk475 (by decide)) ob3) ?_
    refine r_icmp_eq dX11_worthOf_34 rfl (fun c4 => ?_) (fun c4 => ?_)
    · refine r_aload_n dX11_worthOf_57 rfl ?_
      refine r_iload_n dX11_worthOf_58 rfl ?_
      refine r_aload_n dX11_worthOf_59 rfl ?_
      refine r_getS (v := 475) dX11_worthOf_60 kF11_28 (sh_o hS kk468 (by decide)) (sh_f hS rr468_11 (by decide)) ?_
      refine r_iload_n dX11_worthOf_63 rfl ?_
      refine r_iaload dX11_worthOf_64 (jro_ix (sh_r hS kk475 (by decide)) ob3) ?_
      refine r_aload_n dX11_worthOf_65 rfl ?_
      refine r_getS (v := 476) dX11_worthOf_66 kF11_31 (sh_o hS kk468 (by decide)) (sh_f hS rr468_12 (by decide)) ?_
      refine r_iload_n dX11_worthOf_69 rfl ?_
      refine r_iaload dX11_worthOf_70 (jro_ix (sh_r hS kk476 (by decide)) ob3) ?_
      refine r_invV_i dX11_worthOf_71 kM11_220 (by decide) (Nat.le_of_ble_eq_true rfl) rfl rfl (Nat.le_of_ble_eq_true rfl) (Nat.le_of_ble_eq_true rfl) (sh_o hS kk468 (by decide)) (Call.mono ((h.2.2 c2).2.1 c4) (Nat.le_refl _) ?_)
      rintro _ M6 ⟨z5, rfl, s9, h7⟩
      refine ⟨_, rfl, ?_⟩
      exact r_iret dX11_worthOf_74 rfl h7
    · refine r_aload_n dX11_worthOf_37 rfl ?_
      refine r_iload_n dX11_worthOf_38 rfl ?_
      refine r_aload_n dX11_worthOf_39 rfl ?_
      refine r_getS (v := 474) dX11_worthOf_40 kF11_25 (sh_o hS kk468 (by decide)) (sh_f hS rr468_10 (by decide)) ?_
      refine r_iload_n dX11_worthOf_43 rfl ?_
      refine r_iaload dX11_worthOf_44 (jro_ix (sh_r hS kk474 (by decide)) ob3) ?_
      refine r_aload_n dX11_worthOf_45 rfl ?_
      refine r_getS (v := 475) dX11_worthOf_46 kF11_28 (sh_o hS kk468 (by decide)) (sh_f hS rr468_11 (by decide)) ?_
      refine r_iload_n dX11_worthOf_49 rfl ?_
      refine r_iaload dX11_worthOf_50 (jro_ix (sh_r hS kk475 (by decide)) ob3) ?_
      refine r_invV_i dX11_worthOf_51 kM11_220 (by decide) (Nat.le_of_ble_eq_true rfl) rfl rfl (Nat.le_of_ble_eq_true rfl) (Nat.le_of_ble_eq_true rfl) (sh_o hS kk468 (by decide)) (Call.mono ((h.2.2 c2).2.2 c4) (Nat.le_refl _) ?_)
      rintro _ M11 ⟨z10, rfl, s14, h12⟩
      refine ⟨_, rfl, ?_⟩
      refine r_if_eq dX11_worthOf_54 rfl (fun c15 => ?_) (fun c15 => ?_)
      · refine r_iinc (ls2 := [some (vR 468), some (vI n), some (vI (w32 (l2 + (1 : Int))))]) dX11_worthOf_75 rfl rfl ?_
        refine r_goto (tgt := 6) dX11_worthOf_78 rfl ?_
        exact (h12.1 c15)
      · refine r_aload_n dX11_worthOf_57 rfl ?_
        refine r_iload_n dX11_worthOf_58 rfl ?_
        refine r_aload_n dX11_worthOf_59 rfl ?_
        refine r_getS (v := 475) dX11_worthOf_60 kF11_28 (sh_o s14 kk468 (by decide)) (sh_f s14 rr468_11 (by decide)) ?_
        refine r_iload_n dX11_worthOf_63 rfl ?_
        refine r_iaload dX11_worthOf_64 (jro_ix (sh_r s14 kk475 (by decide)) ob3) ?_
        refine r_aload_n dX11_worthOf_65 rfl ?_
        refine r_getS (v := 476) dX11_worthOf_66 kF11_31 (sh_o s14 kk468 (by decide)) (sh_f s14 rr468_12 (by decide)) ?_
        refine r_iload_n dX11_worthOf_69 rfl ?_
        refine r_iaload dX11_worthOf_70 (jro_ix (sh_r s14 kk476 (by decide)) ob3) ?_
        refine r_invV_i dX11_worthOf_71 kM11_220 (by decide) (Nat.le_of_ble_eq_true rfl) rfl rfl (Nat.le_of_ble_eq_true rfl) (Nat.le_of_ble_eq_true rfl) (sh_o s14 kk468 (by decide)) (Call.mono (h12.2 c15) (Nat.le_refl _) ?_)
        rintro _ M17 ⟨z16, rfl, s20, h18⟩
        refine ⟨_, rfl, ?_⟩
        exact r_iret dX11_worthOf_74 rfl h18
theorem vn_emptyIn {e : Nat} {M : jM} {Q : Option jV → jM → Prop} {p : Int} (he : 6 ≤ e) (hS : Shp M)
  (h : Run (e + 1) mX11_emptyIn 2 [some (vR 468), some (vI p), some (vI (0 : Int))] [] M Q) :
  Call (e + 1) mX11_emptyIn [vR 468, vI p] M Q := by
  show Run (e + 1) mX11_emptyIn 0 [some (vR 468), some (vI p), none] [] M Q
  refine r_iconst dX11_emptyIn_0 (by decide) ?_
  refine r_istore_n (ls2 := [some (vR 468), some (vI p), some (vI (0 : Int))]) dX11_emptyIn_1 (Nat.le_of_ble_eq_true rfl) rfl ?_
  exact h
theorem vn_emptyIn_2 {e : Nat} {M : jM} {Q : Option jV → jM → Prop} {p : Int} {l2 : Int}  (he : 6 ≤ e) (hS : Shp M)
  (h : (((4 : Int) ≤ l2) → (Q (some (vI (-1 : Int))) M)) ∧ (¬ ((4 : Int) ≤ l2) → (((0 ≤ p ∧ p < 8) ∧ (0 ≤ l2 ∧ l2 < 4)) ∧ ((((iv M 486 (20 * p + 5 * l2 + (0 : Int)).toNat) ≠ (0 : Int)) → (Run (e + 1) mX11_emptyIn 2 [some (vR 468), some (vI p), some (vI (w32 (l2 + (1 : Int))))] [] M Q)) ∧ (¬ ((iv M 486 (20 * p + 5 * l2 + (0 : Int)).toNat) ≠ (0 : Int)) → (Q (some (vI l2)) M)))))) :
  Run (e + 1) mX11_emptyIn 2 [some (vR 468), some (vI p), some (vI l2)] [] M Q := by
  refine r_iload_n dX11_emptyIn_2 rfl ?_
  refine r_iconst dX11_emptyIn_3 (by decide) ?_
  refine r_icmp_ge dX11_emptyIn_4 rfl (fun c1 => ?_) (fun c1 => ?_)
  · refine r_iconst dX11_emptyIn_25 (by decide) ?_
    exact r_iret dX11_emptyIn_26 rfl (h.1 c1)
  · refine r_aload_n dX11_emptyIn_7 rfl ?_
    refine r_iload_n dX11_emptyIn_8 rfl ?_
    refine r_iload_n dX11_emptyIn_9 rfl ?_
    refine r_iconst dX11_emptyIn_10 (by decide) ?_
    have ob2 := (h.2 c1).1
    refine r_invV_i dX11_emptyIn_11 kM11_271 (by decide) (Nat.le_of_ble_eq_true rfl) rfl rfl (Nat.le_of_ble_eq_true rfl) (Nat.le_of_ble_eq_true rfl) (sh_o hS kk468 (by decide)) (m_of (by omega) hS ⟨ob2.1, ob2.2, by decide⟩ ⟨_, rfl, ?_⟩)
    refine r_if_ne dX11_emptyIn_14 rfl (fun c3 => ?_) (fun c3 => ?_)
    · refine r_iinc (ls2 := [some (vR 468), some (vI p), some (vI (w32 (l2 + (1 : Int))))]) dX11_emptyIn_19 rfl rfl ?_
      refine r_goto (tgt := 2) dX11_emptyIn_22 rfl ?_
      exact ((h.2 c1).2.1 c3)
    · refine r_iload_n dX11_emptyIn_17 rfl ?_
      exact r_iret dX11_emptyIn_18 rfl ((h.2 c1).2.2 c3)
theorem vn_putThought {e : Nat} {M : jM} {Q : Option jV → jM → Prop} {p : Int} {w : Int} {k : Int} {t : Int} (he : 6 ≤ e) (hS : Shp M)
  (h : Call e mX11_emptyIn [vR 468, vI p] M (fun r4 M2 => ∃ z1 : Int, r4 = some (vI z1) ∧ Shp M2 ∧ (((0 ≤ p ∧ p < 8) ∧ (0 ≤ z1 ∧ z1 < 4)) ∧ (∀ N7 : jM, N7 = (si M2 486 (20 * p + 5 * z1 + (0 : Int)).toNat (1 : Int)) → Shp N7 → (∀ N9 : jM, N9 = (si N7 486 (20 * p + 5 * z1 + (1 : Int)).toNat w) → Shp N9 → (∀ N11 : jM, N11 = (si N9 486 (20 * p + 5 * z1 + (2 : Int)).toNat k) → Shp N11 → (∀ N13 : jM, N13 = (si N11 486 (20 * p + 5 * z1 + (3 : Int)).toNat t) → Shp N13 → (∀ N15 : jM, N15 = (si N13 486 (20 * p + 5 * z1 + (4 : Int)).toNat (0 : Int)) → Shp N15 → (Q none N15))))))))) :
  Call (e + 1) mX11_putThought [vR 468, vI p, vI w, vI k, vI t] M Q := by
  show Run (e + 1) mX11_putThought 0 [some (vR 468), some (vI p), some (vI w), some (vI k), some (vI t), none] [] M Q
  refine r_aload_n dX11_putThought_0 rfl ?_
  refine r_iload_n dX11_putThought_1 rfl ?_
  refine r_invV_i dX11_putThought_2 kM11_274 (by decide) (Nat.le_of_ble_eq_true rfl) rfl rfl (Nat.le_of_ble_eq_true rfl) (Nat.le_of_ble_eq_true rfl) (sh_o hS kk468 (by decide)) (Call.mono h (Nat.le_refl _) ?_)
  rintro _ M2 ⟨z1, rfl, s5, h3⟩
  refine ⟨_, rfl, ?_⟩
  refine r_istore (ls2 := [some (vR 468), some (vI p), some (vI w), some (vI k), some (vI t), some (vI z1)]) dX11_putThought_5 (Nat.le_of_ble_eq_true rfl) rfl ?_
  refine r_aload_n dX11_putThought_7 rfl ?_
  refine r_iload_n dX11_putThought_8 rfl ?_
  refine r_iload dX11_putThought_9 rfl ?_
  refine r_iconst dX11_putThought_11 (by decide) ?_
  refine r_iconst dX11_putThought_12 (by decide) ?_
  have ob6 := h3.1
  refine r_invV_v dX11_putThought_13 kM11_277 (by decide) (Nat.le_of_ble_eq_true rfl) rfl rfl (Nat.le_of_ble_eq_true rfl) (Nat.le_of_ble_eq_true rfl) (sh_o s5 kk468 (by decide)) (m_set (by omega) s5 ⟨ob6.1, ob6.2, by decide⟩ ⟨rfl, ?_⟩)
  have K18 : ∀ N7 : jM, N7 = (si M2 486 (20 * p + 5 * z1 + (0 : Int)).toNat (1 : Int)) → Run (e + 1) mX11_putThought 16 [some (vR 468), some (vI p), some (vI w), some (vI k), some (vI t), some (vI z1)] [] N7 Q := by
    intro N7 hN17
    have sN8 : Shp N7 := by rw [hN17]; exact s5
    refine r_aload_n dX11_putThought_16 rfl ?_
    refine r_iload_n dX11_putThought_17 rfl ?_
    refine r_iload dX11_putThought_18 rfl ?_
    refine r_iconst dX11_putThought_20 (by decide) ?_
    refine r_iload_n dX11_putThought_21 rfl ?_
    refine r_invV_v dX11_putThought_22 kM11_277 (by decide) (Nat.le_of_ble_eq_true rfl) rfl rfl (Nat.le_of_ble_eq_true rfl) (Nat.le_of_ble_eq_true rfl) (sh_o sN8 kk468 (by decide)) (m_set (by omega) sN8 ⟨ob6.1, ob6.2, by decide⟩ ⟨rfl, ?_⟩)
    have K20 : ∀ N9 : jM, N9 = (si N7 486 (20 * p + 5 * z1 + (1 : Int)).toNat w) → Run (e + 1) mX11_putThought 25 [some (vR 468), some (vI p), some (vI w), some (vI k), some (vI t), some (vI z1)] [] N9 Q := by
      intro N9 hN19
      have sN10 : Shp N9 := by rw [hN19]; exact sN8
      refine r_aload_n dX11_putThought_25 rfl ?_
      refine r_iload_n dX11_putThought_26 rfl ?_
      refine r_iload dX11_putThought_27 rfl ?_
      refine r_iconst dX11_putThought_29 (by decide) ?_
      refine r_iload_n dX11_putThought_30 rfl ?_
      refine r_invV_v dX11_putThought_31 kM11_277 (by decide) (Nat.le_of_ble_eq_true rfl) rfl rfl (Nat.le_of_ble_eq_true rfl) (Nat.le_of_ble_eq_true rfl) (sh_o sN10 kk468 (by decide)) (m_set (by omega) sN10 ⟨ob6.1, ob6.2, by decide⟩ ⟨rfl, ?_⟩)
      have K22 : ∀ N11 : jM, N11 = (si N9 486 (20 * p + 5 * z1 + (2 : Int)).toNat k) → Run (e + 1) mX11_putThought 34 [some (vR 468), some (vI p), some (vI w), some (vI k), some (vI t), some (vI z1)] [] N11 Q := by
        intro N11 hN21
        have sN12 : Shp N11 := by rw [hN21]; exact sN10
        refine r_aload_n dX11_putThought_34 rfl ?_
        refine r_iload_n dX11_putThought_35 rfl ?_
        refine r_iload dX11_putThought_36 rfl ?_
        refine r_iconst dX11_putThought_38 (by decide) ?_
        refine r_iload dX11_putThought_39 rfl ?_
        refine r_invV_v dX11_putThought_41 kM11_277 (by decide) (Nat.le_of_ble_eq_true rfl) rfl rfl (Nat.le_of_ble_eq_true rfl) (Nat.le_of_ble_eq_true rfl) (sh_o sN12 kk468 (by decide)) (m_set (by omega) sN12 ⟨ob6.1, ob6.2, by decide⟩ ⟨rfl, ?_⟩)
        have K24 : ∀ N13 : jM, N13 = (si N11 486 (20 * p + 5 * z1 + (3 : Int)).toNat t) → Run (e + 1) mX11_putThought 44 [some (vR 468), some (vI p), some (vI w), some (vI k), some (vI t), some (vI z1)] [] N13 Q := by
          intro N13 hN23
          have sN14 : Shp N13 := by rw [hN23]; exact sN12
          refine r_aload_n dX11_putThought_44 rfl ?_
          refine r_iload_n dX11_putThought_45 rfl ?_
          refine r_iload dX11_putThought_46 rfl ?_
          refine r_iconst dX11_putThought_48 (by decide) ?_
          refine r_iconst dX11_putThought_49 (by decide) ?_
          refine r_invV_v dX11_putThought_50 kM11_277 (by decide) (Nat.le_of_ble_eq_true rfl) rfl rfl (Nat.le_of_ble_eq_true rfl) (Nat.le_of_ble_eq_true rfl) (sh_o sN14 kk468 (by decide)) (m_set (by omega) sN14 ⟨ob6.1, ob6.2, by decide⟩ ⟨rfl, ?_⟩)
          have K26 : ∀ N15 : jM, N15 = (si N13 486 (20 * p + 5 * z1 + (4 : Int)).toNat (0 : Int)) → Run (e + 1) mX11_putThought 53 [some (vR 468), some (vI p), some (vI w), some (vI k), some (vI t), some (vI z1)] [] N15 Q := by
            intro N15 hN25
            have sN16 : Shp N15 := by rw [hN25]; exact sN14
            exact r_vret dX11_putThought_53 rfl (((((h3.2 N7 hN17 sN8) N9 hN19 sN10) N11 hN21 sN12) N13 hN23 sN14) N15 hN25 sN16)
          exact K26 _ rfl
        exact K24 _ rfl
      exact K22 _ rfl
    exact K20 _ rfl
  exact K18 _ rfl
theorem vn_massOf {e : Nat} {M : jM} {Q : Option jV → jM → Prop} {p : Int} {i : Int} (he : 6 ≤ e) (hS : Shp M)
  (h : ((0 ≤ p ∧ p < 8) ∧ (0 ≤ i ∧ i < 4)) ∧ ((w32 ((iv M 486 (20 * p + 5 * i + (4 : Int)).toNat) + (1 : Int))) ≠ 0 ∧ (∀ v3 : Int, v3 = (jdivL (w64 ((100000 : Int) * (iv M 486 (20 * p + 5 * i + (3 : Int)).toNat))) (w32 ((iv M 486 (20 * p + 5 * i + (4 : Int)).toNat) + (1 : Int)))) → ((((iv M 468 30) = (-1 : Int)) → (∀ v5 : Int, v5 = (if (if v3 < (1000000 : Int) then v3 else (1000000 : Int)) < (0 : Int) then (0 : Int) else (if v3 < (1000000 : Int) then v3 else (1000000 : Int))) → ((0 ≤ (w32 ((w32 ((3 : Int) * p)) + (1 : Int))) ∧ (w32 ((w32 ((3 : Int) * p)) + (1 : Int))) < 24) ∧ ((0 ≤ (w64 (v5 * (iv M 483 (w32 ((w32 ((3 : Int) * p)) + (1 : Int))).toNat))) ∧ (w64 (v5 * (iv M 483 (w32 ((w32 ((3 : Int) * p)) + (1 : Int))).toNat))) < 4611686018427387904) ∧ (∀ v8 : Int, v8 = ((rnd (w64 (v5 * (iv M 483 (w32 ((w32 ((3 : Int) * p)) + (1 : Int))).toNat))))) → (Q (some (vL v8)) M)))))) ∧ (¬ ((iv M 468 30) = (-1 : Int)) → (∀ N9 : jM, N9 = (si M 477 0 (iv M 486 (20 * p + 5 * i + (3 : Int)).toNat)) → Shp N9 → (∀ N11 : jM, N11 = (si N9 477 1 (iv N9 486 (20 * p + 5 * i + (2 : Int)).toNat)) → Shp N11 → (∀ N13 : jM, N13 = (si N11 477 2 (iv M 486 (20 * p + 5 * i + (4 : Int)).toNat)) → Shp N13 → ((0 ≤ (w32 ((w32 ((3 : Int) * p)) + (1 : Int))) ∧ (w32 ((w32 ((3 : Int) * p)) + (1 : Int))) < 24) ∧ (∀ N16 : jM, N16 = (si N13 477 3 (iv N13 483 (w32 ((w32 ((3 : Int) * p)) + (1 : Int))).toNat)) → Shp N16 → (∀ N18 : jM, N18 = (si N16 477 4 (iv N16 486 168)) → Shp N18 → (∀ N20 : jM, N20 = (si N18 477 5 (jrem (iv N18 486 170) (24 : Int))) → Shp N20 → (Call e mX11_worthOf [vR 468, vI (iv N20 468 30)] N20 (fun r25 M23 => ∃ z22 : Int, r25 = some (vI z22) ∧ Shp M23 ∧ (∀ v27 : Int, v27 = (if (if z22 < (1000000 : Int) then z22 else (1000000 : Int)) < (0 : Int) then (0 : Int) else (if z22 < (1000000 : Int) then z22 else (1000000 : Int))) → (∀ v28 : Int, v28 = (w64 (v27 * (iv M23 483 (w32 ((w32 ((3 : Int) * p)) + (1 : Int))).toNat))) → ((0 ≤ v28 ∧ v28 < 4611686018427387904) ∧ (Q (some (vL (rnd v28))) M23)))))))))))))))))) :
  Call (e + 1) mX11_massOf [vR 468, vI p, vI i] M Q := by
  show Run (e + 1) mX11_massOf 0 [some (vR 468), some (vI p), some (vI i), none, none, none] [] M Q
  refine r_aload_n dX11_massOf_0 rfl ?_
  refine r_iload_n dX11_massOf_1 rfl ?_
  refine r_iload_n dX11_massOf_2 rfl ?_
  refine r_iconst dX11_massOf_3 (by decide) ?_
  have ob1 := h.1
  refine r_invV_i dX11_massOf_4 kM11_271 (by decide) (Nat.le_of_ble_eq_true rfl) rfl rfl (Nat.le_of_ble_eq_true rfl) (Nat.le_of_ble_eq_true rfl) (sh_o hS kk468 (by decide)) (m_of (by omega) hS ⟨ob1.1, ob1.2, by decide⟩ ⟨_, rfl, ?_⟩)
  refine r_istore_n (ls2 := [some (vR 468), some (vI p), some (vI i), some (vI (iv M 486 (20 * p + 5 * i + (4 : Int)).toNat)), none, none]) dX11_massOf_7 (Nat.le_of_ble_eq_true rfl) rfl ?_
  refine r_ldc2 dX11_massOf_8 kL11_320 ?_
  refine r_aload_n dX11_massOf_11 rfl ?_
  refine r_iload_n dX11_massOf_12 rfl ?_
  refine r_iload_n dX11_massOf_13 rfl ?_
  refine r_iconst dX11_massOf_14 (by decide) ?_
  refine r_invV_i dX11_massOf_15 kM11_271 (by decide) (Nat.le_of_ble_eq_true rfl) rfl rfl (Nat.le_of_ble_eq_true rfl) (Nat.le_of_ble_eq_true rfl) (sh_o hS kk468 (by decide)) (m_of (by omega) hS ⟨ob1.1, ob1.2, by decide⟩ ⟨_, rfl, ?_⟩)
  refine r_i2l dX11_massOf_18 ?_
  refine r_lmul dX11_massOf_19 ?_
  refine r_iload_n dX11_massOf_20 rfl ?_
  refine r_iconst dX11_massOf_21 (by decide) ?_
  refine r_iadd dX11_massOf_22 ?_
  refine r_i2l dX11_massOf_23 ?_
  have ob2 := h.2.1
  refine r_ldiv dX11_massOf_24 ob2 ?_
  have K31 : ∀ v3 : Int, v3 = (jdivL (w64 ((100000 : Int) * (iv M 486 (20 * p + 5 * i + (3 : Int)).toNat))) (w32 ((iv M 486 (20 * p + 5 * i + (4 : Int)).toNat) + (1 : Int)))) → Run (e + 1) mX11_massOf 25 [some (vR 468), some (vI p), some (vI i), some (vI (iv M 486 (20 * p + 5 * i + (4 : Int)).toNat)), none, none] [vL v3] M Q := by
    intro v3 hv30
    refine r_lstore (ls2 := [some (vR 468), some (vI p), some (vI i), some (vI (iv M 486 (20 * p + 5 * i + (4 : Int)).toNat)), some (vL v3), none]) dX11_massOf_25 (Nat.le_of_ble_eq_true rfl) rfl ?_
    refine r_aload_n dX11_massOf_27 rfl ?_
    refine r_get0 dX11_massOf_28 kF11_67 (sh_o hS kk468 (by decide)) ?_
    refine r_iconst dX11_massOf_31 (by decide) ?_
    refine r_icmp_eq dX11_massOf_32 rfl (fun c4 => ?_) (fun c4 => ?_)
    · refine r_lconst0 dX11_massOf_126 ?_
      refine r_ldc2 dX11_massOf_127 kL11_201 ?_
      refine r_lload dX11_massOf_130 rfl ?_
      refine r_math3 dX11_massOf_132 (by decide) kX11_203 (Nat.le_of_ble_eq_true rfl) ?_
      refine r_math1 dX11_massOf_135 (by decide) kX11_209 (Nat.le_of_ble_eq_true rfl) ?_
      have K33 : ∀ v5 : Int, v5 = (if (if v3 < (1000000 : Int) then v3 else (1000000 : Int)) < (0 : Int) then (0 : Int) else (if v3 < (1000000 : Int) then v3 else (1000000 : Int))) → Run (e + 1) mX11_massOf 138 [some (vR 468), some (vI p), some (vI i), some (vI (iv M 486 (20 * p + 5 * i + (4 : Int)).toNat)), some (vL v3), none] [vL v5] M Q := by
        intro v5 hv32
        refine r_aload_n dX11_massOf_138 rfl ?_
        refine r_getS (v := 483) dX11_massOf_139 kF11_52 (sh_o hS kk468 (by decide)) (sh_f hS rr468_23 (by decide)) ?_
        refine r_iconst dX11_massOf_142 (by decide) ?_
        refine r_iload_n dX11_massOf_143 rfl ?_
        refine r_imul dX11_massOf_144 ?_
        refine r_iconst dX11_massOf_145 (by decide) ?_
        refine r_iadd dX11_massOf_146 ?_
        have ob6 := (((h.2.2 v3 hv30).1 c4) v5 hv32).1
        refine r_iaload dX11_massOf_147 (jro_ix (sh_r hS kk483 (by decide)) ob6) ?_
        refine r_i2l dX11_massOf_148 ?_
        refine r_lmul dX11_massOf_149 ?_
        have ob7 := (((h.2.2 v3 hv30).1 c4) v5 hv32).2.1
        refine r_invS_l dX11_massOf_150 (by decide) kXn11_325 kM11_325 (by decide) (Nat.le_of_ble_eq_true rfl) rfl rfl (Nat.le_of_ble_eq_true rfl) (Nat.le_of_ble_eq_true rfl) (d_rounded (by omega) hS ob7 ⟨_, rfl, ?_⟩)
        have K35 : ∀ v8 : Int, v8 = ((rnd (w64 (v5 * (iv M 483 (w32 ((w32 ((3 : Int) * p)) + (1 : Int))).toNat))))) → Run (e + 1) mX11_massOf 153 [some (vR 468), some (vI p), some (vI i), some (vI (iv M 486 (20 * p + 5 * i + (4 : Int)).toNat)), some (vL v3), none] [vL v8] M Q := by
          intro v8 hv34
          exact r_lret dX11_massOf_153 rfl ((((h.2.2 v3 hv30).1 c4) v5 hv32).2.2 v8 hv34)
        exact K35 _ rfl
      exact K33 _ rfl
    · refine r_aload_n dX11_massOf_35 rfl ?_
      refine r_getS (v := 477) dX11_massOf_36 kF11_34 (sh_o hS kk468 (by decide)) (sh_f hS rr468_15 (by decide)) ?_
      refine r_iconst dX11_massOf_39 (by decide) ?_
      refine r_aload_n dX11_massOf_40 rfl ?_
      refine r_iload_n dX11_massOf_41 rfl ?_
      refine r_iload_n dX11_massOf_42 rfl ?_
      refine r_iconst dX11_massOf_43 (by decide) ?_
      refine r_invV_i dX11_massOf_44 kM11_271 (by decide) (Nat.le_of_ble_eq_true rfl) rfl rfl (Nat.le_of_ble_eq_true rfl) (Nat.le_of_ble_eq_true rfl) (sh_o hS kk468 (by decide)) (m_of (by omega) hS ⟨ob1.1, ob1.2, by decide⟩ ⟨_, rfl, ?_⟩)
      refine r_iastoreK (k := 0) dX11_massOf_47 rfl ⟨jro_ix (n := 6) (sh_r hS kk477 (by decide)) (by decide), (by decide)⟩ ?_
      have K37 : ∀ N9 : jM, N9 = (si M 477 0 (iv M 486 (20 * p + 5 * i + (3 : Int)).toNat)) → Run (e + 1) mX11_massOf 48 [some (vR 468), some (vI p), some (vI i), some (vI (iv M 486 (20 * p + 5 * i + (4 : Int)).toNat)), some (vL v3), none] [] N9 Q := by
        intro N9 hN36
        have sN10 : Shp N9 := by rw [hN36]; exact hS
        refine r_aload_n dX11_massOf_48 rfl ?_
        refine r_getS (v := 477) dX11_massOf_49 kF11_34 (sh_o sN10 kk468 (by decide)) (sh_f sN10 rr468_15 (by decide)) ?_
        refine r_iconst dX11_massOf_52 (by decide) ?_
        refine r_aload_n dX11_massOf_53 rfl ?_
        refine r_iload_n dX11_massOf_54 rfl ?_
        refine r_iload_n dX11_massOf_55 rfl ?_
        refine r_iconst dX11_massOf_56 (by decide) ?_
        refine r_invV_i dX11_massOf_57 kM11_271 (by decide) (Nat.le_of_ble_eq_true rfl) rfl rfl (Nat.le_of_ble_eq_true rfl) (Nat.le_of_ble_eq_true rfl) (sh_o sN10 kk468 (by decide)) (m_of (by omega) sN10 ⟨ob1.1, ob1.2, by decide⟩ ⟨_, rfl, ?_⟩)
        refine r_iastoreK (k := 1) dX11_massOf_60 rfl ⟨jro_ix (n := 6) (sh_r sN10 kk477 (by decide)) (by decide), (by decide)⟩ ?_
        have K39 : ∀ N11 : jM, N11 = (si N9 477 1 (iv N9 486 (20 * p + 5 * i + (2 : Int)).toNat)) → Run (e + 1) mX11_massOf 61 [some (vR 468), some (vI p), some (vI i), some (vI (iv M 486 (20 * p + 5 * i + (4 : Int)).toNat)), some (vL v3), none] [] N11 Q := by
          intro N11 hN38
          have sN12 : Shp N11 := by rw [hN38]; exact sN10
          refine r_aload_n dX11_massOf_61 rfl ?_
          refine r_getS (v := 477) dX11_massOf_62 kF11_34 (sh_o sN12 kk468 (by decide)) (sh_f sN12 rr468_15 (by decide)) ?_
          refine r_iconst dX11_massOf_65 (by decide) ?_
          refine r_iload_n dX11_massOf_66 rfl ?_
          refine r_iastoreK (k := 2) dX11_massOf_67 rfl ⟨jro_ix (n := 6) (sh_r sN12 kk477 (by decide)) (by decide), (by decide)⟩ ?_
          have K41 : ∀ N13 : jM, N13 = (si N11 477 2 (iv M 486 (20 * p + 5 * i + (4 : Int)).toNat)) → Run (e + 1) mX11_massOf 68 [some (vR 468), some (vI p), some (vI i), some (vI (iv M 486 (20 * p + 5 * i + (4 : Int)).toNat)), some (vL v3), none] [] N13 Q := by
            intro N13 hN40
            have sN14 : Shp N13 := by rw [hN40]; exact sN12
            refine r_aload_n dX11_massOf_68 rfl ?_
            refine r_getS (v := 477) dX11_massOf_69 kF11_34 (sh_o sN14 kk468 (by decide)) (sh_f sN14 rr468_15 (by decide)) ?_
            refine r_iconst dX11_massOf_72 (by decide) ?_
            refine r_aload_n dX11_massOf_73 rfl ?_
            refine r_getS (v := 483) dX11_massOf_74 kF11_52 (sh_o sN14 kk468 (by decide)) (sh_f sN14 rr468_23 (by decide)) ?_
            refine r_iconst dX11_massOf_77 (by decide) ?_
            refine r_iload_n dX11_massOf_78 rfl ?_
            refine r_imul dX11_massOf_79 ?_
            refine r_iconst dX11_massOf_80 (by decide) ?_
            refine r_iadd dX11_massOf_81 ?_
            have ob15 := (((((h.2.2 v3 hv30).2 c4) N9 hN36 sN10) N11 hN38 sN12) N13 hN40 sN14).1
            refine r_iaload dX11_massOf_82 (jro_ix (sh_r sN14 kk483 (by decide)) ob15) ?_
            refine r_iastoreK (k := 3) dX11_massOf_83 rfl ⟨jro_ix (n := 6) (sh_r sN14 kk477 (by decide)) (by decide), (by decide)⟩ ?_
            have K43 : ∀ N16 : jM, N16 = (si N13 477 3 (iv N13 483 (w32 ((w32 ((3 : Int) * p)) + (1 : Int))).toNat)) → Run (e + 1) mX11_massOf 84 [some (vR 468), some (vI p), some (vI i), some (vI (iv M 486 (20 * p + 5 * i + (4 : Int)).toNat)), some (vL v3), none] [] N16 Q := by
              intro N16 hN42
              have sN17 : Shp N16 := by rw [hN42]; exact sN14
              refine r_aload_n dX11_massOf_84 rfl ?_
              refine r_getS (v := 477) dX11_massOf_85 kF11_34 (sh_o sN17 kk468 (by decide)) (sh_f sN17 rr468_15 (by decide)) ?_
              refine r_iconst dX11_massOf_88 (by decide) ?_
              refine r_aload_n dX11_massOf_89 rfl ?_
              refine r_getS (v := 486) dX11_massOf_90 kF11_61 (sh_o sN17 kk468 (by decide)) (sh_f sN17 rr468_28 (by decide)) ?_
              refine r_sipush dX11_massOf_93 (by decide) ?_
              refine r_ialoadK (k := 168) dX11_massOf_96 rfl (jro_ix (n := 352) (sh_r sN17 kk486 (by decide)) (by decide)) ?_
              refine r_iastoreK (k := 4) dX11_massOf_97 rfl ⟨jro_ix (n := 6) (sh_r sN17 kk477 (by decide)) (by decide), (by decide)⟩ ?_
              have K45 : ∀ N18 : jM, N18 = (si N16 477 4 (iv N16 486 168)) → Run (e + 1) mX11_massOf 98 [some (vR 468), some (vI p), some (vI i), some (vI (iv M 486 (20 * p + 5 * i + (4 : Int)).toNat)), some (vL v3), none] [] N18 Q := by
                intro N18 hN44
                have sN19 : Shp N18 := by rw [hN44]; exact sN17
                refine r_aload_n dX11_massOf_98 rfl ?_
                refine r_getS (v := 477) dX11_massOf_99 kF11_34 (sh_o sN19 kk468 (by decide)) (sh_f sN19 rr468_15 (by decide)) ?_
                refine r_iconst dX11_massOf_102 (by decide) ?_
                refine r_aload_n dX11_massOf_103 rfl ?_
                refine r_getS (v := 486) dX11_massOf_104 kF11_61 (sh_o sN19 kk468 (by decide)) (sh_f sN19 rr468_28 (by decide)) ?_
                refine r_sipush dX11_massOf_107 (by decide) ?_
                refine r_ialoadK (k := 170) dX11_massOf_110 rfl (jro_ix (n := 352) (sh_r sN19 kk486 (by decide)) (by decide)) ?_
                refine r_bipush dX11_massOf_111 (by decide) ?_
                refine r_irem dX11_massOf_113 (by decide) ?_
                refine r_iastoreK (k := 5) dX11_massOf_114 rfl ⟨jro_ix (n := 6) (sh_r sN19 kk477 (by decide)) (by decide), (by decide)⟩ ?_
                have K47 : ∀ N20 : jM, N20 = (si N18 477 5 (jrem (iv N18 486 170) (24 : Int))) → Run (e + 1) mX11_massOf 115 [some (vR 468), some (vI p), some (vI i), some (vI (iv M 486 (20 * p + 5 * i + (4 : Int)).toNat)), some (vL v3), none] [] N20 Q := by
                  intro N20 hN46
                  have sN21 : Shp N20 := by rw [hN46]; exact sN19
                  refine r_aload_n dX11_massOf_115 rfl ?_
                  refine r_aload_n dX11_massOf_116 rfl ?_
                  refine r_get0 dX11_massOf_117 kF11_67 (sh_o sN21 kk468 (by decide)) ?_
                  refine r_invV_i dX11_massOf_120 kM11_322 (by decide) (Nat.le_of_ble_eq_true rfl) rfl rfl (Nat.le_of_ble_eq_true rfl) (Nat.le_of_ble_eq_true rfl) (sh_o sN21 kk468 (by decide)) (Call.mono ((((((((h.2.2 v3 hv30).2 c4) N9 hN36 sN10) N11 hN38 sN12) N13 hN40 sN14).2 N16 hN42 sN17) N18 hN44 sN19) N20 hN46 sN21) (Nat.le_refl _) ?_)
                  rintro _ M23 ⟨z22, rfl, s26, h24⟩
                  refine ⟨_, rfl, ?_⟩
                  refine r_i2l dX11_massOf_123 ?_
                  refine r_lstore (ls2 := [some (vR 468), some (vI p), some (vI i), some (vI (iv M 486 (20 * p + 5 * i + (4 : Int)).toNat)), some (vL z22), none]) dX11_massOf_124 (Nat.le_of_ble_eq_true rfl) rfl ?_
                  refine r_lconst0 dX11_massOf_126 ?_
                  refine r_ldc2 dX11_massOf_127 kL11_201 ?_
                  refine r_lload dX11_massOf_130 rfl ?_
                  refine r_math3 dX11_massOf_132 (by decide) kX11_203 (Nat.le_of_ble_eq_true rfl) ?_
                  refine r_math1 dX11_massOf_135 (by decide) kX11_209 (Nat.le_of_ble_eq_true rfl) ?_
                  have K49 : ∀ v27 : Int, v27 = (if (if z22 < (1000000 : Int) then z22 else (1000000 : Int)) < (0 : Int) then (0 : Int) else (if z22 < (1000000 : Int) then z22 else (1000000 : Int))) → Run (e + 1) mX11_massOf 138 [some (vR 468), some (vI p), some (vI i), some (vI (iv M 486 (20 * p + 5 * i + (4 : Int)).toNat)), some (vL z22), none] [vL v27] M23 Q := by
                    intro v27 hv48
                    refine r_aload_n dX11_massOf_138 rfl ?_
                    refine r_getS (v := 483) dX11_massOf_139 kF11_52 (sh_o s26 kk468 (by decide)) (sh_f s26 rr468_23 (by decide)) ?_
                    refine r_iconst dX11_massOf_142 (by decide) ?_
                    refine r_iload_n dX11_massOf_143 rfl ?_
                    refine r_imul dX11_massOf_144 ?_
                    refine r_iconst dX11_massOf_145 (by decide) ?_
                    refine r_iadd dX11_massOf_146 ?_
                    refine r_iaload dX11_massOf_147 (jro_ix (sh_r s26 kk483 (by decide)) ob15) ?_
                    refine r_i2l dX11_massOf_148 ?_
                    refine r_lmul dX11_massOf_149 ?_
                    have K51 : ∀ v28 : Int, v28 = (w64 (v27 * (iv M23 483 (w32 ((w32 ((3 : Int) * p)) + (1 : Int))).toNat))) → Run (e + 1) mX11_massOf 150 [some (vR 468), some (vI p), some (vI i), some (vI (iv M 486 (20 * p + 5 * i + (4 : Int)).toNat)), some (vL z22), none] [vL v28] M23 Q := by
                      intro v28 hv50
                      have ob29 := ((h24 v27 hv48) v28 hv50).1
                      refine r_invS_l dX11_massOf_150 (by decide) kXn11_325 kM11_325 (by decide) (Nat.le_of_ble_eq_true rfl) rfl rfl (Nat.le_of_ble_eq_true rfl) (Nat.le_of_ble_eq_true rfl) (d_rounded (by omega) s26 ob29 ⟨_, rfl, ?_⟩)
                      exact r_lret dX11_massOf_153 rfl ((h24 v27 hv48) v28 hv50).2
                    exact K51 _ rfl
                  exact K49 _ rfl
                exact K47 _ rfl
              exact K45 _ rfl
            exact K43 _ rfl
          exact K41 _ rfl
        exact K39 _ rfl
      exact K37 _ rfl
  exact K31 _ rfl
theorem vn_weightOf {e : Nat} {M : jM} {Q : Option jV → jM → Prop} {w : Int} (he : 6 ≤ e) (hS : Shp M)
  (h : (0 ≤ (w32 ((160 : Int) + w)) ∧ (w32 ((160 : Int) + w)) < 352) ∧ (Run (e + 1) mX11_weightOf 19 [some (vR 468), some (vI w), some (vL (w64 ((1000 : Int) * (iv M 486 (w32 ((160 : Int) + w)).toNat)))), none, some (vI (0 : Int)), none] [] M Q)) :
  Call (e + 1) mX11_weightOf [vR 468, vI w] M Q := by
  show Run (e + 1) mX11_weightOf 0 [some (vR 468), some (vI w), none, none, none, none] [] M Q
  refine r_ldc2 dX11_weightOf_0 kL11_329 ?_
  refine r_aload_n dX11_weightOf_3 rfl ?_
  refine r_getS (v := 486) dX11_weightOf_4 kF11_61 (sh_o hS kk468 (by decide)) (sh_f hS rr468_28 (by decide)) ?_
  refine r_sipush dX11_weightOf_7 (by decide) ?_
  refine r_iload_n dX11_weightOf_10 rfl ?_
  refine r_iadd dX11_weightOf_11 ?_
  have ob1 := h.1
  refine r_iaload dX11_weightOf_12 (jro_ix (sh_r hS kk486 (by decide)) ob1) ?_
  refine r_i2l dX11_weightOf_13 ?_
  refine r_lmul dX11_weightOf_14 ?_
  refine r_lstore_n (ls2 := [some (vR 468), some (vI w), some (vL (w64 ((1000 : Int) * (iv M 486 (w32 ((160 : Int) + w)).toNat)))), none, none, none]) dX11_weightOf_15 (Nat.le_of_ble_eq_true rfl) rfl ?_
  refine r_iconst dX11_weightOf_16 (by decide) ?_
  refine r_istore (ls2 := [some (vR 468), some (vI w), some (vL (w64 ((1000 : Int) * (iv M 486 (w32 ((160 : Int) + w)).toNat)))), none, some (vI (0 : Int)), none]) dX11_weightOf_17 (Nat.le_of_ble_eq_true rfl) rfl ?_
  exact h.2
theorem vn_weightOf_19 {e : Nat} {M : jM} {Q : Option jV → jM → Prop} {w : Int} {l2 : Int} {l4 : Int} {l5 : Option jV}  (he : 6 ≤ e) (hS : Shp M)
  (h : (((iv M 468 25) ≤ l4) → (Q (some (vL l2)) M)) ∧ (¬ ((iv M 468 25) ≤ l4) → (Run (e + 1) mX11_weightOf 31 [some (vR 468), some (vI w), some (vL l2), none, some (vI l4), some (vI (0 : Int))] [] M Q))) :
  Run (e + 1) mX11_weightOf 19 [some (vR 468), some (vI w), some (vL l2), none, some (vI l4), l5] [] M Q := by
  refine r_iload dX11_weightOf_19 rfl ?_
  refine r_aload_n dX11_weightOf_21 rfl ?_
  refine r_get0 dX11_weightOf_22 kF11_287 (sh_o hS kk468 (by decide)) ?_
  refine r_icmp_ge dX11_weightOf_25 rfl (fun c2 => ?_) (fun c2 => ?_)
  · refine r_lload_n dX11_weightOf_79 rfl ?_
    exact r_lret dX11_weightOf_80 rfl (h.1 c2)
  · refine r_iconst dX11_weightOf_28 (by decide) ?_
    refine r_istore (ls2 := [some (vR 468), some (vI w), some (vL l2), none, some (vI l4), some (vI (0 : Int))]) dX11_weightOf_29 (Nat.le_of_ble_eq_true rfl) rfl ?_
    exact (h.2 c2)
theorem vn_weightOf_31 {e : Nat} {M : jM} {Q : Option jV → jM → Prop} {w : Int} {l2 : Int} {l4 : Int} {l5 : Int}  (he : 6 ≤ e) (hS : Shp M)
  (h : (((4 : Int) ≤ l5) → (Run (e + 1) mX11_weightOf 19 [some (vR 468), some (vI w), some (vL l2), none, some (vI (w32 (l4 + (1 : Int)))), some (vI l5)] [] M Q)) ∧ (¬ ((4 : Int) ≤ l5) → (((0 ≤ l4 ∧ l4 < 8) ∧ (0 ≤ l5 ∧ l5 < 4)) ∧ ((((if iv M 486 (20 * l4 + 5 * l5).toNat = 1 ∧ iv M 486 (20 * l4 + 5 * l5 + 1).toNat = w then (1 : Int) else (0 : Int)) = (0 : Int)) → (Run (e + 1) mX11_weightOf 31 [some (vR 468), some (vI w), some (vL l2), none, some (vI l4), some (vI (w32 (l5 + (1 : Int))))] [] M Q)) ∧ (¬ ((if iv M 486 (20 * l4 + 5 * l5).toNat = 1 ∧ iv M 486 (20 * l4 + 5 * l5 + 1).toNat = w then (1 : Int) else (0 : Int)) = (0 : Int)) → (Call e mX11_massOf [vR 468, vI l4, vI l5] M (fun r9 M7 => ∃ z6 : Int, r9 = some (vL z6) ∧ Shp M7 ∧ ((0 ≤ (w64 (l2 + z6)) ∧ (w64 (l2 + z6)) < 4611686018427387904) ∧ (Run (e + 1) mX11_weightOf 31 [some (vR 468), some (vI w), some (vL (rnd (w64 (l2 + z6)))), none, some (vI l4), some (vI (w32 (l5 + (1 : Int))))] [] M7 Q))))))))) :
  Run (e + 1) mX11_weightOf 31 [some (vR 468), some (vI w), some (vL l2), none, some (vI l4), some (vI l5)] [] M Q := by
  refine r_iload dX11_weightOf_31 rfl ?_
  refine r_iconst dX11_weightOf_33 (by decide) ?_
  refine r_icmp_ge dX11_weightOf_34 rfl (fun c3 => ?_) (fun c3 => ?_)
  · refine r_iinc (ls2 := [some (vR 468), some (vI w), some (vL l2), none, some (vI (w32 (l4 + (1 : Int)))), some (vI l5)]) dX11_weightOf_73 rfl rfl ?_
    refine r_goto (tgt := 19) dX11_weightOf_76 rfl ?_
    exact (h.1 c3)
  · refine r_aload_n dX11_weightOf_37 rfl ?_
    refine r_iload dX11_weightOf_38 rfl ?_
    refine r_iload dX11_weightOf_40 rfl ?_
    refine r_iload_n dX11_weightOf_42 rfl ?_
    have ob4 := (h.2 c3).1
    refine r_invV_i dX11_weightOf_43 kM11_331 (by decide) (Nat.le_of_ble_eq_true rfl) rfl rfl (Nat.le_of_ble_eq_true rfl) (Nat.le_of_ble_eq_true rfl) (sh_o hS kk468 (by decide)) (m_isOf (by omega) hS ob4 ⟨_, rfl, ?_⟩)
    refine r_if_eq dX11_weightOf_46 rfl (fun c5 => ?_) (fun c5 => ?_)
    · refine r_lload_n dX11_weightOf_65 rfl ?_
      refine r_lstore_n (ls2 := [some (vR 468), some (vI w), some (vL l2), none, some (vI l4), some (vI l5)]) dX11_weightOf_66 (Nat.le_of_ble_eq_true rfl) rfl ?_
      refine r_iinc (ls2 := [some (vR 468), some (vI w), some (vL l2), none, some (vI l4), some (vI (w32 (l5 + (1 : Int))))]) dX11_weightOf_67 rfl rfl ?_
      refine r_goto (tgt := 31) dX11_weightOf_70 rfl ?_
      exact ((h.2 c3).2.1 c5)
    · refine r_lload_n dX11_weightOf_49 rfl ?_
      refine r_aload_n dX11_weightOf_50 rfl ?_
      refine r_iload dX11_weightOf_51 rfl ?_
      refine r_iload dX11_weightOf_53 rfl ?_
      refine r_invV_l dX11_weightOf_55 kM11_334 (by decide) (Nat.le_of_ble_eq_true rfl) rfl rfl (Nat.le_of_ble_eq_true rfl) (Nat.le_of_ble_eq_true rfl) (sh_o hS kk468 (by decide)) (Call.mono ((h.2 c3).2.2 c5) (Nat.le_refl _) ?_)
      rintro _ M7 ⟨z6, rfl, s10, h8⟩
      refine ⟨_, rfl, ?_⟩
      refine r_ladd dX11_weightOf_58 ?_
      have ob11 := h8.1
      refine r_invS_l dX11_weightOf_59 (by decide) kXn11_325 kM11_325 (by decide) (Nat.le_of_ble_eq_true rfl) rfl rfl (Nat.le_of_ble_eq_true rfl) (Nat.le_of_ble_eq_true rfl) (d_rounded (by omega) s10 ob11 ⟨_, rfl, ?_⟩)
      refine r_goto (tgt := 66) dX11_weightOf_62 rfl ?_
      refine r_lstore_n (ls2 := [some (vR 468), some (vI w), some (vL (rnd (w64 (l2 + z6)))), none, some (vI l4), some (vI l5)]) dX11_weightOf_66 (Nat.le_of_ble_eq_true rfl) rfl ?_
      refine r_iinc (ls2 := [some (vR 468), some (vI w), some (vL (rnd (w64 (l2 + z6)))), none, some (vI l4), some (vI (w32 (l5 + (1 : Int))))]) dX11_weightOf_67 rfl rfl ?_
      refine r_goto (tgt := 31) dX11_weightOf_70 rfl ?_
      exact h8.2
theorem vn_doesFloat {e : Nat} {M : jM} {Q : Option jV → jM → Prop} {p : Int} (he : 6 ≤ e) (hS : Shp M)
  (h : Call e mX11_weightOf [vR 468, vI p] M (fun r4 M2 => ∃ z1 : Int, r4 = some (vL z1) ∧ Shp M2 ∧ (Q (some (vI (if (0 : Int) ≤ (jcmp z1 (w64 ((10000 : Int) * (iv M2 486 168)))) then (0 : Int) else (1 : Int)))) M2))) :
  Call (e + 1) mX11_doesFloat [vR 468, vI p] M Q := by
  show Run (e + 1) mX11_doesFloat 0 [some (vR 468), some (vI p)] [] M Q
  refine r_aload_n dX11_doesFloat_0 rfl ?_
  refine r_iload_n dX11_doesFloat_1 rfl ?_
  refine r_invV_l dX11_doesFloat_2 kM11_340 (by decide) (Nat.le_of_ble_eq_true rfl) rfl rfl (Nat.le_of_ble_eq_true rfl) (Nat.le_of_ble_eq_true rfl) (sh_o hS kk468 (by decide)) (Call.mono h (Nat.le_refl _) ?_)
  rintro _ M2 ⟨z1, rfl, s5, h3⟩
  refine ⟨_, rfl, ?_⟩
  refine r_ldc2 dX11_doesFloat_5 kL11_344 ?_
  refine r_aload_n dX11_doesFloat_8 rfl ?_
  refine r_getS (v := 486) dX11_doesFloat_9 kF11_61 (sh_o s5 kk468 (by decide)) (sh_f s5 rr468_28 (by decide)) ?_
  refine r_sipush dX11_doesFloat_12 (by decide) ?_
  refine r_ialoadK (k := 168) dX11_doesFloat_15 rfl (jro_ix (n := 352) (sh_r s5 kk486 (by decide)) (by decide)) ?_
  refine r_i2l dX11_doesFloat_16 ?_
  refine r_lmul dX11_doesFloat_17 ?_
  refine r_lcmp dX11_doesFloat_18 ?_
  have K6 : Run (e + 1) mX11_doesFloat 27 [some (vR 468), some (vI p)] [vI (if (0 : Int) ≤ (jcmp z1 (w64 ((10000 : Int) * (iv M2 486 168)))) then (0 : Int) else (1 : Int))] M2 Q := by
    exact r_zret dX11_doesFloat_27 rfl (by (repeat' split) <;> first | exact Or.inl rfl | exact Or.inr rfl) h3
  refine r_if_ge dX11_doesFloat_19 rfl (fun q7 => ?_) (fun q7 => ?_)
  · rw [if_pos q7] at K6
    refine r_iconst dX11_doesFloat_26 (by decide) ?_
    exact K6
  · rw [if_neg q7] at K6
    refine r_iconst dX11_doesFloat_22 (by decide) ?_
    refine r_goto (tgt := 27) dX11_doesFloat_23 rfl ?_
    exact K6
theorem vn_doesSink {e : Nat} {M : jM} {Q : Option jV → jM → Prop} {p : Int} (he : 6 ≤ e) (hS : Shp M)
  (h : Call e mX11_weightOf [vR 468, vI p] M (fun r4 M2 => ∃ z1 : Int, r4 = some (vL z1) ∧ Shp M2 ∧ (Q (some (vI (if (jcmp z1 (w64 ((1000000 : Int) * (iv M2 482 1)))) ≤ (0 : Int) then (0 : Int) else (1 : Int)))) M2))) :
  Call (e + 1) mX11_doesSink [vR 468, vI p] M Q := by
  show Run (e + 1) mX11_doesSink 0 [some (vR 468), some (vI p)] [] M Q
  refine r_aload_n dX11_doesSink_0 rfl ?_
  refine r_iload_n dX11_doesSink_1 rfl ?_
  refine r_invV_l dX11_doesSink_2 kM11_340 (by decide) (Nat.le_of_ble_eq_true rfl) rfl rfl (Nat.le_of_ble_eq_true rfl) (Nat.le_of_ble_eq_true rfl) (sh_o hS kk468 (by decide)) (Call.mono h (Nat.le_refl _) ?_)
  rintro _ M2 ⟨z1, rfl, s5, h3⟩
  refine ⟨_, rfl, ?_⟩
  refine r_ldc2 dX11_doesSink_5 kL11_201 ?_
  refine r_aload_n dX11_doesSink_8 rfl ?_
  refine r_getS (v := 482) dX11_doesSink_9 kF11_49 (sh_o s5 kk468 (by decide)) (sh_f s5 rr468_22 (by decide)) ?_
  refine r_iconst dX11_doesSink_12 (by decide) ?_
  refine r_ialoadK (k := 1) dX11_doesSink_13 rfl (jro_ix (n := 4) (sh_r s5 kk482 (by decide)) (by decide)) ?_
  refine r_i2l dX11_doesSink_14 ?_
  refine r_lmul dX11_doesSink_15 ?_
  refine r_lcmp dX11_doesSink_16 ?_
  have K6 : Run (e + 1) mX11_doesSink 25 [some (vR 468), some (vI p)] [vI (if (jcmp z1 (w64 ((1000000 : Int) * (iv M2 482 1)))) ≤ (0 : Int) then (0 : Int) else (1 : Int))] M2 Q := by
    exact r_zret dX11_doesSink_25 rfl (by (repeat' split) <;> first | exact Or.inl rfl | exact Or.inr rfl) h3
  refine r_if_le dX11_doesSink_17 rfl (fun q7 => ?_) (fun q7 => ?_)
  · rw [if_pos q7] at K6
    refine r_iconst dX11_doesSink_24 (by decide) ?_
    exact K6
  · rw [if_neg q7] at K6
    refine r_iconst dX11_doesSink_20 (by decide) ?_
    refine r_goto (tgt := 25) dX11_doesSink_21 rfl ?_
    exact K6
theorem vn_heftOf {e : Nat} {M : jM} {Q : Option jV → jM → Prop} {p : Int} (he : 6 ≤ e) (hS : Shp M)
  (h : Call e mX11_weightOf [vR 468, vI p] M (fun r4 M2 => ∃ z1 : Int, r4 = some (vL z1) ∧ Shp M2 ∧ ((0 ≤ z1 ∧ z1 < 4611686018427387904) ∧ (Q (some (vI (w32 (((bl z1 : Nat) : Int) - (1 : Int))))) M2)))) :
  Call (e + 1) mX11_heftOf [vR 468, vI p] M Q := by
  show Run (e + 1) mX11_heftOf 0 [some (vR 468), some (vI p)] [] M Q
  refine r_aload_n dX11_heftOf_0 rfl ?_
  refine r_iload_n dX11_heftOf_1 rfl ?_
  refine r_invV_l dX11_heftOf_2 kM11_340 (by decide) (Nat.le_of_ble_eq_true rfl) rfl rfl (Nat.le_of_ble_eq_true rfl) (Nat.le_of_ble_eq_true rfl) (sh_o hS kk468 (by decide)) (Call.mono h (Nat.le_refl _) ?_)
  rintro _ M2 ⟨z1, rfl, s5, h3⟩
  refine ⟨_, rfl, ?_⟩
  have ob6 := h3.1
  refine r_invS_i dX11_heftOf_5 (by decide) kXn11_317 kM11_317 (by decide) (Nat.le_of_ble_eq_true rfl) rfl rfl (Nat.le_of_ble_eq_true rfl) (Nat.le_of_ble_eq_true rfl) (d_lengthOf (by omega) s5 ob6 ⟨_, rfl, ?_⟩)
  refine r_iconst dX11_heftOf_8 (by decide) ?_
  refine r_isub dX11_heftOf_9 ?_
  exact r_iret dX11_heftOf_10 rfl h3.2
theorem vn_grainOf {e : Nat} {M : jM} {Q : Option jV → jM → Prop} {p : Int} (he : 6 ≤ e) (hS : Shp M)
  (h : Call e mX11_weightOf [vR 468, vI p] M (fun r4 M2 => ∃ z1 : Int, r4 = some (vL z1) ∧ Shp M2 ∧ ((0 ≤ z1 ∧ z1 < 4611686018427387904) ∧ (∀ v7 : Int, v7 = ((if (24 : Int) ≤ (w32 (((bl z1 : Nat) : Int) - (1 : Int))) then jshrL (w64 (z1 - (jshlL (1 : Int) (w32 (((bl z1 : Nat) : Int) - (1 : Int)))))) (w32 ((w32 ((w32 (((bl z1 : Nat) : Int) - (1 : Int))) - (24 : Int))) + (1 : Int))) else jshlL (w64 (z1 - (jshlL (1 : Int) (w32 (((bl z1 : Nat) : Int) - (1 : Int)))))) (w32 ((23 : Int) - (w32 (((bl z1 : Nat) : Int) - (1 : Int))))))) → (Q (some (vI (w32 v7))) M2))))) :
  Call (e + 1) mX11_grainOf [vR 468, vI p] M Q := by
  show Run (e + 1) mX11_grainOf 0 [some (vR 468), some (vI p), none, none, none, none, none] [] M Q
  refine r_aload_n dX11_grainOf_0 rfl ?_
  refine r_iload_n dX11_grainOf_1 rfl ?_
  refine r_invV_l dX11_grainOf_2 kM11_340 (by decide) (Nat.le_of_ble_eq_true rfl) rfl rfl (Nat.le_of_ble_eq_true rfl) (Nat.le_of_ble_eq_true rfl) (sh_o hS kk468 (by decide)) (Call.mono h (Nat.le_refl _) ?_)
  rintro _ M2 ⟨z1, rfl, s5, h3⟩
  refine ⟨_, rfl, ?_⟩
  refine r_lstore_n (ls2 := [some (vR 468), some (vI p), some (vL z1), none, none, none, none]) dX11_grainOf_5 (Nat.le_of_ble_eq_true rfl) rfl ?_
  refine r_lload_n dX11_grainOf_6 rfl ?_
  have ob6 := h3.1
  refine r_invS_i dX11_grainOf_7 (by decide) kXn11_317 kM11_317 (by decide) (Nat.le_of_ble_eq_true rfl) rfl rfl (Nat.le_of_ble_eq_true rfl) (Nat.le_of_ble_eq_true rfl) (d_lengthOf (by omega) s5 ob6 ⟨_, rfl, ?_⟩)
  refine r_iconst dX11_grainOf_10 (by decide) ?_
  refine r_isub dX11_grainOf_11 ?_
  refine r_istore (ls2 := [some (vR 468), some (vI p), some (vL z1), none, some (vI (w32 (((bl z1 : Nat) : Int) - (1 : Int)))), none, none]) dX11_grainOf_12 (Nat.le_of_ble_eq_true rfl) rfl ?_
  refine r_lload_n dX11_grainOf_14 rfl ?_
  refine r_lconst1 dX11_grainOf_15 ?_
  refine r_iload dX11_grainOf_16 rfl ?_
  refine r_lshl dX11_grainOf_18 ?_
  refine r_lsub dX11_grainOf_19 ?_
  refine r_lstore (ls2 := [some (vR 468), some (vI p), some (vL z1), none, some (vI (w32 (((bl z1 : Nat) : Int) - (1 : Int)))), some (vL (w64 (z1 - (jshlL (1 : Int) (w32 (((bl z1 : Nat) : Int) - (1 : Int))))))), none]) dX11_grainOf_20 (Nat.le_of_ble_eq_true rfl) rfl ?_
  refine r_iload dX11_grainOf_22 rfl ?_
  refine r_bipush dX11_grainOf_24 (by decide) ?_
  have K8 : Run (e + 1) mX11_grainOf 50 [some (vR 468), some (vI p), some (vL z1), none, some (vI (w32 (((bl z1 : Nat) : Int) - (1 : Int)))), some (vL (w64 (z1 - (jshlL (1 : Int) (w32 (((bl z1 : Nat) : Int) - (1 : Int))))))), none] [vL (if (24 : Int) ≤ (w32 (((bl z1 : Nat) : Int) - (1 : Int))) then jshrL (w64 (z1 - (jshlL (1 : Int) (w32 (((bl z1 : Nat) : Int) - (1 : Int)))))) (w32 ((w32 ((w32 (((bl z1 : Nat) : Int) - (1 : Int))) - (24 : Int))) + (1 : Int))) else jshlL (w64 (z1 - (jshlL (1 : Int) (w32 (((bl z1 : Nat) : Int) - (1 : Int)))))) (w32 ((23 : Int) - (w32 (((bl z1 : Nat) : Int) - (1 : Int))))))] M2 Q := by
    have K10 : ∀ v7 : Int, v7 = ((if (24 : Int) ≤ (w32 (((bl z1 : Nat) : Int) - (1 : Int))) then jshrL (w64 (z1 - (jshlL (1 : Int) (w32 (((bl z1 : Nat) : Int) - (1 : Int)))))) (w32 ((w32 ((w32 (((bl z1 : Nat) : Int) - (1 : Int))) - (24 : Int))) + (1 : Int))) else jshlL (w64 (z1 - (jshlL (1 : Int) (w32 (((bl z1 : Nat) : Int) - (1 : Int)))))) (w32 ((23 : Int) - (w32 (((bl z1 : Nat) : Int) - (1 : Int))))))) → Run (e + 1) mX11_grainOf 50 [some (vR 468), some (vI p), some (vL z1), none, some (vI (w32 (((bl z1 : Nat) : Int) - (1 : Int)))), some (vL (w64 (z1 - (jshlL (1 : Int) (w32 (((bl z1 : Nat) : Int) - (1 : Int))))))), none] [vL v7] M2 Q := by
      intro v7 hv9
      refine r_l2i dX11_grainOf_50 ?_
      exact r_iret dX11_grainOf_51 rfl (h3.2 v7 hv9)
    exact K10 _ rfl
  refine r_icmp_ge dX11_grainOf_26 rfl (fun q11 => ?_) (fun q11 => ?_)
  · rw [if_pos q11] at K8
    refine r_lload dX11_grainOf_40 rfl ?_
    refine r_iload dX11_grainOf_42 rfl ?_
    refine r_bipush dX11_grainOf_44 (by decide) ?_
    refine r_isub dX11_grainOf_46 ?_
    refine r_iconst dX11_grainOf_47 (by decide) ?_
    refine r_iadd dX11_grainOf_48 ?_
    refine r_lshr dX11_grainOf_49 ?_
    exact K8
  · rw [if_neg q11] at K8
    refine r_lload dX11_grainOf_29 rfl ?_
    refine r_bipush dX11_grainOf_31 (by decide) ?_
    refine r_iload dX11_grainOf_33 rfl ?_
    refine r_isub dX11_grainOf_35 ?_
    refine r_lshl dX11_grainOf_36 ?_
    refine r_goto (tgt := 50) dX11_grainOf_37 rfl ?_
    exact K8
theorem vn_floating {e : Nat} {M : jM} {Q : Option jV → jM → Prop}  (he : 6 ≤ e) (hS : Shp M)
  (h : Run (e + 1) mX11_floating 4 [some (vR 468), some (vI (0 : Int)), some (vI (0 : Int))] [] M Q) :
  Call (e + 1) mX11_floating [vR 468] M Q := by
  show Run (e + 1) mX11_floating 0 [some (vR 468), none, none] [] M Q
  refine r_iconst dX11_floating_0 (by decide) ?_
  refine r_istore_n (ls2 := [some (vR 468), some (vI (0 : Int)), none]) dX11_floating_1 (Nat.le_of_ble_eq_true rfl) rfl ?_
  refine r_iconst dX11_floating_2 (by decide) ?_
  refine r_istore_n (ls2 := [some (vR 468), some (vI (0 : Int)), some (vI (0 : Int))]) dX11_floating_3 (Nat.le_of_ble_eq_true rfl) rfl ?_
  exact h
theorem vn_floating_4 {e : Nat} {M : jM} {Q : Option jV → jM → Prop} {l1 : Int} {l2 : Int}  (he : 6 ≤ e) (hS : Shp M)
  (h : (((iv M 468 25) ≤ l2) → (Q (some (vI l1)) M)) ∧ (¬ ((iv M 468 25) ≤ l2) → (Call e mX11_doesFloat [vR 468, vI l2] M (fun r5 M3 => ∃ z2 : Int, r5 = some (vI z2) ∧ Shp M3 ∧ (Run (e + 1) mX11_floating 4 [some (vR 468), some (vI (jor l1 (if z2 = (0 : Int) then (0 : Int) else jshl (1 : Int) l2))), some (vI (w32 (l2 + (1 : Int))))] [] M3 Q))))) :
  Run (e + 1) mX11_floating 4 [some (vR 468), some (vI l1), some (vI l2)] [] M Q := by
  refine r_iload_n dX11_floating_4 rfl ?_
  refine r_aload_n dX11_floating_5 rfl ?_
  refine r_get0 dX11_floating_6 kF11_287 (sh_o hS kk468 (by decide)) ?_
  refine r_icmp_ge dX11_floating_9 rfl (fun c1 => ?_) (fun c1 => ?_)
  · refine r_iload_n dX11_floating_36 rfl ?_
    exact r_iret dX11_floating_37 rfl (h.1 c1)
  · refine r_iload_n dX11_floating_12 rfl ?_
    refine r_aload_n dX11_floating_13 rfl ?_
    refine r_iload_n dX11_floating_14 rfl ?_
    refine r_invV_i dX11_floating_15 kM11_346 (by decide) (Nat.le_of_ble_eq_true rfl) rfl rfl (Nat.le_of_ble_eq_true rfl) (Nat.le_of_ble_eq_true rfl) (sh_o hS kk468 (by decide)) (Call.mono (h.2 c1) (Nat.le_refl _) ?_)
    rintro _ M3 ⟨z2, rfl, s6, h4⟩
    refine ⟨_, rfl, ?_⟩
    have K7 : Run (e + 1) mX11_floating 28 [some (vR 468), some (vI l1), some (vI l2)] [vI (if z2 = (0 : Int) then (0 : Int) else jshl (1 : Int) l2), vI l1] M3 Q := by
      refine r_ior dX11_floating_28 ?_
      refine r_istore_n (ls2 := [some (vR 468), some (vI (jor l1 (if z2 = (0 : Int) then (0 : Int) else jshl (1 : Int) l2))), some (vI l2)]) dX11_floating_29 (Nat.le_of_ble_eq_true rfl) rfl ?_
      refine r_iinc (ls2 := [some (vR 468), some (vI (jor l1 (if z2 = (0 : Int) then (0 : Int) else jshl (1 : Int) l2))), some (vI (w32 (l2 + (1 : Int))))]) dX11_floating_30 rfl rfl ?_
      refine r_goto (tgt := 4) dX11_floating_33 rfl ?_
      exact h4
    refine r_if_eq dX11_floating_18 rfl (fun q8 => ?_) (fun q8 => ?_)
    · rw [if_pos q8] at K7
      refine r_iconst dX11_floating_27 (by decide) ?_
      exact K7
    · rw [if_neg q8] at K7
      refine r_iconst dX11_floating_21 (by decide) ?_
      refine r_iload_n dX11_floating_22 rfl ?_
      refine r_ishl dX11_floating_23 ?_
      refine r_goto (tgt := 28) dX11_floating_24 rfl ?_
      exact K7
theorem vn_sinking {e : Nat} {M : jM} {Q : Option jV → jM → Prop}  (he : 6 ≤ e) (hS : Shp M)
  (h : Run (e + 1) mX11_sinking 4 [some (vR 468), some (vI (0 : Int)), some (vI (0 : Int))] [] M Q) :
  Call (e + 1) mX11_sinking [vR 468] M Q := by
  show Run (e + 1) mX11_sinking 0 [some (vR 468), none, none] [] M Q
  refine r_iconst dX11_sinking_0 (by decide) ?_
  refine r_istore_n (ls2 := [some (vR 468), some (vI (0 : Int)), none]) dX11_sinking_1 (Nat.le_of_ble_eq_true rfl) rfl ?_
  refine r_iconst dX11_sinking_2 (by decide) ?_
  refine r_istore_n (ls2 := [some (vR 468), some (vI (0 : Int)), some (vI (0 : Int))]) dX11_sinking_3 (Nat.le_of_ble_eq_true rfl) rfl ?_
  exact h
theorem vn_sinking_4 {e : Nat} {M : jM} {Q : Option jV → jM → Prop} {l1 : Int} {l2 : Int}  (he : 6 ≤ e) (hS : Shp M)
  (h : (((iv M 468 25) ≤ l2) → (Q (some (vI l1)) M)) ∧ (¬ ((iv M 468 25) ≤ l2) → (Call e mX11_doesSink [vR 468, vI l2] M (fun r5 M3 => ∃ z2 : Int, r5 = some (vI z2) ∧ Shp M3 ∧ (Run (e + 1) mX11_sinking 4 [some (vR 468), some (vI (jor l1 (if z2 = (0 : Int) then (0 : Int) else jshl (1 : Int) l2))), some (vI (w32 (l2 + (1 : Int))))] [] M3 Q))))) :
  Run (e + 1) mX11_sinking 4 [some (vR 468), some (vI l1), some (vI l2)] [] M Q := by
  refine r_iload_n dX11_sinking_4 rfl ?_
  refine r_aload_n dX11_sinking_5 rfl ?_
  refine r_get0 dX11_sinking_6 kF11_287 (sh_o hS kk468 (by decide)) ?_
  refine r_icmp_ge dX11_sinking_9 rfl (fun c1 => ?_) (fun c1 => ?_)
  · refine r_iload_n dX11_sinking_36 rfl ?_
    exact r_iret dX11_sinking_37 rfl (h.1 c1)
  · refine r_iload_n dX11_sinking_12 rfl ?_
    refine r_aload_n dX11_sinking_13 rfl ?_
    refine r_iload_n dX11_sinking_14 rfl ?_
    refine r_invV_i dX11_sinking_15 kM11_349 (by decide) (Nat.le_of_ble_eq_true rfl) rfl rfl (Nat.le_of_ble_eq_true rfl) (Nat.le_of_ble_eq_true rfl) (sh_o hS kk468 (by decide)) (Call.mono (h.2 c1) (Nat.le_refl _) ?_)
    rintro _ M3 ⟨z2, rfl, s6, h4⟩
    refine ⟨_, rfl, ?_⟩
    have K7 : Run (e + 1) mX11_sinking 28 [some (vR 468), some (vI l1), some (vI l2)] [vI (if z2 = (0 : Int) then (0 : Int) else jshl (1 : Int) l2), vI l1] M3 Q := by
      refine r_ior dX11_sinking_28 ?_
      refine r_istore_n (ls2 := [some (vR 468), some (vI (jor l1 (if z2 = (0 : Int) then (0 : Int) else jshl (1 : Int) l2))), some (vI l2)]) dX11_sinking_29 (Nat.le_of_ble_eq_true rfl) rfl ?_
      refine r_iinc (ls2 := [some (vR 468), some (vI (jor l1 (if z2 = (0 : Int) then (0 : Int) else jshl (1 : Int) l2))), some (vI (w32 (l2 + (1 : Int))))]) dX11_sinking_30 rfl rfl ?_
      refine r_goto (tgt := 4) dX11_sinking_33 rfl ?_
      exact h4
    refine r_if_eq dX11_sinking_18 rfl (fun q8 => ?_) (fun q8 => ?_)
    · rw [if_pos q8] at K7
      refine r_iconst dX11_sinking_27 (by decide) ?_
      exact K7
    · rw [if_neg q8] at K7
      refine r_iconst dX11_sinking_21 (by decide) ?_
      refine r_iload_n dX11_sinking_22 rfl ?_
      refine r_ishl dX11_sinking_23 ?_
      refine r_goto (tgt := 28) dX11_sinking_24 rfl ?_
      exact K7
theorem vn_thoughtMany {e : Nat} {M : jM} {Q : Option jV → jM → Prop}  (he : 6 ≤ e) (hS : Shp M)
  (h : Run (e + 1) mX11_thoughtMany 4 [some (vR 468), some (vI (0 : Int)), some (vI (0 : Int)), none] [] M Q) :
  Call (e + 1) mX11_thoughtMany [vR 468] M Q := by
  show Run (e + 1) mX11_thoughtMany 0 [some (vR 468), none, none, none] [] M Q
  refine r_iconst dX11_thoughtMany_0 (by decide) ?_
  refine r_istore_n (ls2 := [some (vR 468), some (vI (0 : Int)), none, none]) dX11_thoughtMany_1 (Nat.le_of_ble_eq_true rfl) rfl ?_
  refine r_iconst dX11_thoughtMany_2 (by decide) ?_
  refine r_istore_n (ls2 := [some (vR 468), some (vI (0 : Int)), some (vI (0 : Int)), none]) dX11_thoughtMany_3 (Nat.le_of_ble_eq_true rfl) rfl ?_
  exact h
theorem vn_thoughtMany_4 {e : Nat} {M : jM} {Q : Option jV → jM → Prop} {l1 : Int} {l2 : Int} {l3 : Option jV}  (he : 6 ≤ e) (hS : Shp M)
  (h : (((iv M 468 25) ≤ l2) → (Q (some (vI l1)) M)) ∧ (¬ ((iv M 468 25) ≤ l2) → (Run (e + 1) mX11_thoughtMany 14 [some (vR 468), some (vI l1), some (vI l2), some (vI (0 : Int))] [] M Q))) :
  Run (e + 1) mX11_thoughtMany 4 [some (vR 468), some (vI l1), some (vI l2), l3] [] M Q := by
  refine r_iload_n dX11_thoughtMany_4 rfl ?_
  refine r_aload_n dX11_thoughtMany_5 rfl ?_
  refine r_get0 dX11_thoughtMany_6 kF11_287 (sh_o hS kk468 (by decide)) ?_
  refine r_icmp_ge dX11_thoughtMany_9 rfl (fun c1 => ?_) (fun c1 => ?_)
  · refine r_iload_n dX11_thoughtMany_41 rfl ?_
    exact r_iret dX11_thoughtMany_42 rfl (h.1 c1)
  · refine r_iconst dX11_thoughtMany_12 (by decide) ?_
    refine r_istore_n (ls2 := [some (vR 468), some (vI l1), some (vI l2), some (vI (0 : Int))]) dX11_thoughtMany_13 (Nat.le_of_ble_eq_true rfl) rfl ?_
    exact (h.2 c1)
theorem vn_thoughtMany_14 {e : Nat} {M : jM} {Q : Option jV → jM → Prop} {l1 : Int} {l2 : Int} {l3 : Int}  (he : 6 ≤ e) (hS : Shp M)
  (h : (((4 : Int) ≤ l3) → (Run (e + 1) mX11_thoughtMany 4 [some (vR 468), some (vI l1), some (vI (w32 (l2 + (1 : Int)))), some (vI l3)] [] M Q)) ∧ (¬ ((4 : Int) ≤ l3) → (((0 ≤ l2 ∧ l2 < 8) ∧ (0 ≤ l3 ∧ l3 < 4)) ∧ (Run (e + 1) mX11_thoughtMany 14 [some (vR 468), some (vI (w32 (l1 + (iv M 486 (20 * l2 + 5 * l3 + (0 : Int)).toNat)))), some (vI l2), some (vI (w32 (l3 + (1 : Int))))] [] M Q)))) :
  Run (e + 1) mX11_thoughtMany 14 [some (vR 468), some (vI l1), some (vI l2), some (vI l3)] [] M Q := by
  refine r_iload_n dX11_thoughtMany_14 rfl ?_
  refine r_iconst dX11_thoughtMany_15 (by decide) ?_
  refine r_icmp_ge dX11_thoughtMany_16 rfl (fun c2 => ?_) (fun c2 => ?_)
  · refine r_iinc (ls2 := [some (vR 468), some (vI l1), some (vI (w32 (l2 + (1 : Int)))), some (vI l3)]) dX11_thoughtMany_35 rfl rfl ?_
    refine r_goto (tgt := 4) dX11_thoughtMany_38 rfl ?_
    exact (h.1 c2)
  · refine r_iload_n dX11_thoughtMany_19 rfl ?_
    refine r_aload_n dX11_thoughtMany_20 rfl ?_
    refine r_iload_n dX11_thoughtMany_21 rfl ?_
    refine r_iload_n dX11_thoughtMany_22 rfl ?_
    refine r_iconst dX11_thoughtMany_23 (by decide) ?_
    have ob3 := (h.2 c2).1
    refine r_invV_i dX11_thoughtMany_24 kM11_271 (by decide) (Nat.le_of_ble_eq_true rfl) rfl rfl (Nat.le_of_ble_eq_true rfl) (Nat.le_of_ble_eq_true rfl) (sh_o hS kk468 (by decide)) (m_of (by omega) hS ⟨ob3.1, ob3.2, by decide⟩ ⟨_, rfl, ?_⟩)
    refine r_iadd dX11_thoughtMany_27 ?_
    refine r_istore_n (ls2 := [some (vR 468), some (vI (w32 (l1 + (iv M 486 (20 * l2 + 5 * l3 + (0 : Int)).toNat)))), some (vI l2), some (vI l3)]) dX11_thoughtMany_28 (Nat.le_of_ble_eq_true rfl) rfl ?_
    refine r_iinc (ls2 := [some (vR 468), some (vI (w32 (l1 + (iv M 486 (20 * l2 + 5 * l3 + (0 : Int)).toNat)))), some (vI l2), some (vI (w32 (l3 + (1 : Int))))]) dX11_thoughtMany_29 rfl rfl ?_
    refine r_goto (tgt := 14) dX11_thoughtMany_32 rfl ?_
    exact (h.2 c2).2
theorem vn_live {e : Nat} {M : jM} {Q : Option jV → jM → Prop}  (he : 6 ≤ e) (hS : Shp M)
  (h : Run (e + 1) mX11_live 2 [some (vR 468), some (vI (0 : Int)), none, none] [] M Q) :
  Call (e + 1) mX11_live [vR 468] M Q := by
  show Run (e + 1) mX11_live 0 [some (vR 468), none, none, none] [] M Q
  refine r_iconst dX11_live_0 (by decide) ?_
  refine r_istore_n (ls2 := [some (vR 468), some (vI (0 : Int)), none, none]) dX11_live_1 (Nat.le_of_ble_eq_true rfl) rfl ?_
  exact h
theorem vn_live_2 {e : Nat} {M : jM} {Q : Option jV → jM → Prop} {l1 : Int} {l2 : Option jV} {l3 : Option jV}  (he : 6 ≤ e) (hS : Shp M)
  (h : (((iv M 468 25) ≤ l1) → (∀ N2 : jM, N2 = (si M 486 170 (w32 ((iv M 486 170) + (1 : Int)))) → Shp N2 → (Q none N2))) ∧ (¬ ((iv M 468 25) ≤ l1) → (Run (e + 1) mX11_live 12 [some (vR 468), some (vI l1), some (vI (0 : Int)), l3] [] M Q))) :
  Run (e + 1) mX11_live 2 [some (vR 468), some (vI l1), l2, l3] [] M Q := by
  refine r_iload_n dX11_live_2 rfl ?_
  refine r_aload_n dX11_live_3 rfl ?_
  refine r_get0 dX11_live_4 kF11_287 (sh_o hS kk468 (by decide)) ?_
  refine r_icmp_ge dX11_live_7 rfl (fun c1 => ?_) (fun c1 => ?_)
  · refine r_aload_n dX11_live_94 rfl ?_
    refine r_getS (v := 486) dX11_live_95 kF11_61 (sh_o hS kk468 (by decide)) (sh_f hS rr468_28 (by decide)) ?_
    refine r_sipush dX11_live_98 (by decide) ?_
    refine r_dup2IR dX11_live_101 ?_
    refine r_ialoadK (k := 170) dX11_live_102 rfl (jro_ix (n := 352) (sh_r hS kk486 (by decide)) (by decide)) ?_
    refine r_iconst dX11_live_103 (by decide) ?_
    refine r_iadd dX11_live_104 ?_
    refine r_iastoreK (k := 170) dX11_live_105 rfl ⟨jro_ix (n := 352) (sh_r hS kk486 (by decide)) (by decide), (by decide)⟩ ?_
    have K5 : ∀ N2 : jM, N2 = (si M 486 170 (w32 ((iv M 486 170) + (1 : Int)))) → Run (e + 1) mX11_live 106 [some (vR 468), some (vI l1), l2, l3] [] N2 Q := by
      intro N2 hN4
      have sN3 : Shp N2 := by rw [hN4]; exact hS
      exact r_vret dX11_live_106 rfl ((h.1 c1) N2 hN4 sN3)
    exact K5 _ rfl
  · refine r_iconst dX11_live_10 (by decide) ?_
    refine r_istore_n (ls2 := [some (vR 468), some (vI l1), some (vI (0 : Int)), l3]) dX11_live_11 (Nat.le_of_ble_eq_true rfl) rfl ?_
    exact (h.2 c1)
theorem vn_live_12 {e : Nat} {M : jM} {Q : Option jV → jM → Prop} {l1 : Int} {l2 : Int} {l3 : Option jV}  (he : 6 ≤ e) (hS : Shp M)
  (h : (((4 : Int) ≤ l2) → (Run (e + 1) mX11_live 2 [some (vR 468), some (vI (w32 (l1 + (1 : Int)))), some (vI l2), l3] [] M Q)) ∧ (¬ ((4 : Int) ≤ l2) → (((0 ≤ l1 ∧ l1 < 8) ∧ (0 ≤ l2 ∧ l2 < 4)) ∧ ((((iv M 486 (20 * l1 + 5 * l2 + (0 : Int)).toNat) ≠ (1 : Int)) → (Run (e + 1) mX11_live 12 [some (vR 468), some (vI l1), some (vI (w32 (l2 + (1 : Int)))), l3] [] M Q)) ∧ (¬ ((iv M 486 (20 * l1 + 5 * l2 + (0 : Int)).toNat) ≠ (1 : Int)) → (Call e mX11_massOf [vR 468, vI l1, vI l2] M (fun r12 M10 => ∃ z9 : Int, r12 = some (vL z9) ∧ Shp M10 ∧ (∀ N14 : jM, N14 = (si M10 486 (20 * l1 + 5 * l2 + (0 : Int)).toNat (if (if (jcmp z9 (0 : Int)) ≠ (0 : Int) then (0 : Int) else (1 : Int)) = (0 : Int) then (1 : Int) else (0 : Int))) → Shp N14 → (∀ v16 : Int, v16 = (if (w32 ((iv N14 486 (20 * l1 + 5 * l2 + (4 : Int)).toNat) + (1 : Int))) < (99 : Int) then (w32 ((iv N14 486 (20 * l1 + 5 * l2 + (4 : Int)).toNat) + (1 : Int))) else (99 : Int)) → (∀ N17 : jM, N17 = (si N14 486 (20 * l1 + 5 * l2 + (4 : Int)).toNat v16) → Shp N17 → (Run (e + 1) mX11_live 12 [some (vR 468), some (vI l1), some (vI (w32 (l2 + (1 : Int)))), some (vI (if (jcmp z9 (0 : Int)) ≠ (0 : Int) then (0 : Int) else (1 : Int)))] [] N17 Q))))))))))) :
  Run (e + 1) mX11_live 12 [some (vR 468), some (vI l1), some (vI l2), l3] [] M Q := by
  refine r_iload_n dX11_live_12 rfl ?_
  refine r_iconst dX11_live_13 (by decide) ?_
  refine r_icmp_ge dX11_live_14 rfl (fun c6 => ?_) (fun c6 => ?_)
  · refine r_iinc (ls2 := [some (vR 468), some (vI (w32 (l1 + (1 : Int)))), some (vI l2), l3]) dX11_live_88 rfl rfl ?_
    refine r_goto (tgt := 2) dX11_live_91 rfl ?_
    exact (h.1 c6)
  · refine r_aload_n dX11_live_17 rfl ?_
    refine r_iload_n dX11_live_18 rfl ?_
    refine r_iload_n dX11_live_19 rfl ?_
    refine r_iconst dX11_live_20 (by decide) ?_
    have ob7 := (h.2 c6).1
    refine r_invV_i dX11_live_21 kM11_271 (by decide) (Nat.le_of_ble_eq_true rfl) rfl rfl (Nat.le_of_ble_eq_true rfl) (Nat.le_of_ble_eq_true rfl) (sh_o hS kk468 (by decide)) (m_of (by omega) hS ⟨ob7.1, ob7.2, by decide⟩ ⟨_, rfl, ?_⟩)
    refine r_iconst dX11_live_24 (by decide) ?_
    refine r_icmp_ne dX11_live_25 rfl (fun c8 => ?_) (fun c8 => ?_)
    · refine r_iinc (ls2 := [some (vR 468), some (vI l1), some (vI (w32 (l2 + (1 : Int)))), l3]) dX11_live_82 rfl rfl ?_
      refine r_goto (tgt := 12) dX11_live_85 rfl ?_
      exact ((h.2 c6).2.1 c8)
    · refine r_aload_n dX11_live_28 rfl ?_
      refine r_iload_n dX11_live_29 rfl ?_
      refine r_iload_n dX11_live_30 rfl ?_
      refine r_invV_l dX11_live_31 kM11_334 (by decide) (Nat.le_of_ble_eq_true rfl) rfl rfl (Nat.le_of_ble_eq_true rfl) (Nat.le_of_ble_eq_true rfl) (sh_o hS kk468 (by decide)) (Call.mono ((h.2 c6).2.2 c8) (Nat.le_refl _) ?_)
      rintro _ M10 ⟨z9, rfl, s13, h11⟩
      refine ⟨_, rfl, ?_⟩
      refine r_lconst0 dX11_live_34 ?_
      refine r_lcmp dX11_live_35 ?_
      have K19 : Run (e + 1) mX11_live 44 [some (vR 468), some (vI l1), some (vI l2), l3] [vI (if (jcmp z9 (0 : Int)) ≠ (0 : Int) then (0 : Int) else (1 : Int))] M10 Q := by
        refine r_istore_n (ls2 := [some (vR 468), some (vI l1), some (vI l2), some (vI (if (jcmp z9 (0 : Int)) ≠ (0 : Int) then (0 : Int) else (1 : Int)))]) dX11_live_44 (Nat.le_of_ble_eq_true rfl) rfl ?_
        refine r_aload_n dX11_live_45 rfl ?_
        refine r_iload_n dX11_live_46 rfl ?_
        refine r_iload_n dX11_live_47 rfl ?_
        refine r_iconst dX11_live_48 (by decide) ?_
        refine r_iload_n dX11_live_49 rfl ?_
        have K20 : Run (e + 1) mX11_live 58 [some (vR 468), some (vI l1), some (vI l2), some (vI (if (jcmp z9 (0 : Int)) ≠ (0 : Int) then (0 : Int) else (1 : Int)))] [vI (if (if (jcmp z9 (0 : Int)) ≠ (0 : Int) then (0 : Int) else (1 : Int)) = (0 : Int) then (1 : Int) else (0 : Int)), vI (0 : Int), vI l2, vI l1, vR 468] M10 Q := by
          refine r_invV_v dX11_live_58 kM11_277 (by decide) (Nat.le_of_ble_eq_true rfl) rfl rfl (Nat.le_of_ble_eq_true rfl) (Nat.le_of_ble_eq_true rfl) (sh_o s13 kk468 (by decide)) (m_set (by omega) s13 ⟨ob7.1, ob7.2, by decide⟩ ⟨rfl, ?_⟩)
          have K22 : ∀ N14 : jM, N14 = (si M10 486 (20 * l1 + 5 * l2 + (0 : Int)).toNat (if (if (jcmp z9 (0 : Int)) ≠ (0 : Int) then (0 : Int) else (1 : Int)) = (0 : Int) then (1 : Int) else (0 : Int))) → Run (e + 1) mX11_live 61 [some (vR 468), some (vI l1), some (vI l2), some (vI (if (jcmp z9 (0 : Int)) ≠ (0 : Int) then (0 : Int) else (1 : Int)))] [] N14 Q := by
            intro N14 hN21
            have sN15 : Shp N14 := by rw [hN21]; exact s13
            refine r_aload_n dX11_live_61 rfl ?_
            refine r_iload_n dX11_live_62 rfl ?_
            refine r_iload_n dX11_live_63 rfl ?_
            refine r_iconst dX11_live_64 (by decide) ?_
            refine r_bipush dX11_live_65 (by decide) ?_
            refine r_aload_n dX11_live_67 rfl ?_
            refine r_iload_n dX11_live_68 rfl ?_
            refine r_iload_n dX11_live_69 rfl ?_
            refine r_iconst dX11_live_70 (by decide) ?_
            refine r_invV_i dX11_live_71 kM11_271 (by decide) (Nat.le_of_ble_eq_true rfl) rfl rfl (Nat.le_of_ble_eq_true rfl) (Nat.le_of_ble_eq_true rfl) (sh_o sN15 kk468 (by decide)) (m_of (by omega) sN15 ⟨ob7.1, ob7.2, by decide⟩ ⟨_, rfl, ?_⟩)
            refine r_iconst dX11_live_74 (by decide) ?_
            refine r_iadd dX11_live_75 ?_
            refine r_math2 dX11_live_76 (by decide) kX11_352 (Nat.le_of_ble_eq_true rfl) ?_
            have K24 : ∀ v16 : Int, v16 = (if (w32 ((iv N14 486 (20 * l1 + 5 * l2 + (4 : Int)).toNat) + (1 : Int))) < (99 : Int) then (w32 ((iv N14 486 (20 * l1 + 5 * l2 + (4 : Int)).toNat) + (1 : Int))) else (99 : Int)) → Run (e + 1) mX11_live 79 [some (vR 468), some (vI l1), some (vI l2), some (vI (if (jcmp z9 (0 : Int)) ≠ (0 : Int) then (0 : Int) else (1 : Int)))] [vI v16, vI (4 : Int), vI l2, vI l1, vR 468] N14 Q := by
              intro v16 hv23
              refine r_invV_v dX11_live_79 kM11_277 (by decide) (Nat.le_of_ble_eq_true rfl) rfl rfl (Nat.le_of_ble_eq_true rfl) (Nat.le_of_ble_eq_true rfl) (sh_o sN15 kk468 (by decide)) (m_set (by omega) sN15 ⟨ob7.1, ob7.2, by decide⟩ ⟨rfl, ?_⟩)
              have K26 : ∀ N17 : jM, N17 = (si N14 486 (20 * l1 + 5 * l2 + (4 : Int)).toNat v16) → Run (e + 1) mX11_live 82 [some (vR 468), some (vI l1), some (vI l2), some (vI (if (jcmp z9 (0 : Int)) ≠ (0 : Int) then (0 : Int) else (1 : Int)))] [] N17 Q := by
                intro N17 hN25
                have sN18 : Shp N17 := by rw [hN25]; exact sN15
                refine r_iinc (ls2 := [some (vR 468), some (vI l1), some (vI (w32 (l2 + (1 : Int)))), some (vI (if (jcmp z9 (0 : Int)) ≠ (0 : Int) then (0 : Int) else (1 : Int)))]) dX11_live_82 rfl rfl ?_
                refine r_goto (tgt := 12) dX11_live_85 rfl ?_
                exact (((h11 N14 hN21 sN15) v16 hv23) N17 hN25 sN18)
              exact K26 _ rfl
            exact K24 _ rfl
          exact K22 _ rfl
        refine r_if_eq dX11_live_50 rfl (fun q27 => ?_) (fun q27 => ?_)
        · rw [if_pos q27] at K20
          refine r_iconst dX11_live_57 (by decide) ?_
          exact K20
        · rw [if_neg q27] at K20
          refine r_iconst dX11_live_53 (by decide) ?_
          refine r_goto (tgt := 58) dX11_live_54 rfl ?_
          exact K20
      refine r_if_ne dX11_live_36 rfl (fun q29 => ?_) (fun q29 => ?_)
      · rw [if_pos q29] at K19
        refine r_iconst dX11_live_43 (by decide) ?_
        exact K19
      · rw [if_neg q29] at K19
        refine r_iconst dX11_live_39 (by decide) ?_
        refine r_goto (tgt := 44) dX11_live_40 rfl ?_
        exact K19
theorem vn_passHour {e : Nat} {M : jM} {Q : Option jV → jM → Prop}  (he : 6 ≤ e) (hS : Shp M)
  (h : Call e mX11_live [vR 468] M (fun r4 M2 => r4 = none ∧ Shp M2 ∧ ((((iv M2 486 171) ≠ (60 : Int)) → (Run (e + 1) mX11_passHour 66 [some (vR 468), none] [] M2 Q)) ∧ (¬ ((iv M2 486 171) ≠ (60 : Int)) → (Run (e + 1) mX11_passHour 19 [some (vR 468), some (vI (3 : Int))] [] M2 Q))))) :
  Call (e + 1) mX11_passHour [vR 468] M Q := by
  show Run (e + 1) mX11_passHour 0 [some (vR 468), none] [] M Q
  refine r_aload_n dX11_passHour_0 rfl ?_
  refine r_invV_v dX11_passHour_1 kM11_354 (by decide) (Nat.le_of_ble_eq_true rfl) rfl rfl (Nat.le_of_ble_eq_true rfl) (Nat.le_of_ble_eq_true rfl) (sh_o hS kk468 (by decide)) (Call.mono h (Nat.le_refl _) ?_)
  rintro _ M2 ⟨rfl, s5, h3⟩
  refine ⟨rfl, ?_⟩
  refine r_aload_n dX11_passHour_4 rfl ?_
  refine r_getS (v := 486) dX11_passHour_5 kF11_61 (sh_o s5 kk468 (by decide)) (sh_f s5 rr468_28 (by decide)) ?_
  refine r_sipush dX11_passHour_8 (by decide) ?_
  refine r_ialoadK (k := 171) dX11_passHour_11 rfl (jro_ix (n := 352) (sh_r s5 kk486 (by decide)) (by decide)) ?_
  refine r_bipush dX11_passHour_12 (by decide) ?_
  refine r_icmp_ne dX11_passHour_14 rfl (fun c6 => ?_) (fun c6 => ?_)
  · exact (h3.1 c6)
  · refine r_iconst dX11_passHour_17 (by decide) ?_
    refine r_istore_n (ls2 := [some (vR 468), some (vI (3 : Int))]) dX11_passHour_18 (Nat.le_of_ble_eq_true rfl) rfl ?_
    exact (h3.2 c6)
theorem vn_passHour_19 {e : Nat} {M : jM} {Q : Option jV → jM → Prop} {l1 : Int}  (he : 6 ≤ e) (hS : Shp M)
  (h : (((180 : Int) ≤ l1) → (∀ N8 : jM, N8 = (si M 486 171 (w32 ((iv M 486 171) - (1 : Int)))) → Shp N8 → (Run (e + 1) mX11_passHour 66 [some (vR 468), some (vI l1)] [] N8 Q))) ∧ (¬ ((180 : Int) ≤ l1) → ((0 ≤ (w32 ((172 : Int) + l1)) ∧ (w32 ((172 : Int) + l1)) < 352) ∧ ((0 ≤ (w32 ((w32 ((172 : Int) + l1)) - (3 : Int))) ∧ (w32 ((w32 ((172 : Int) + l1)) - (3 : Int))) < 352) ∧ (∀ N12 : jM, N12 = (si M 486 (w32 ((w32 ((172 : Int) + l1)) - (3 : Int))).toNat (iv M 486 (w32 ((172 : Int) + l1)).toNat)) → Shp N12 → (Run (e + 1) mX11_passHour 19 [some (vR 468), some (vI (w32 (l1 + (1 : Int))))] [] N12 Q)))))) :
  Run (e + 1) mX11_passHour 19 [some (vR 468), some (vI l1)] [] M Q := by
  refine r_iload_n dX11_passHour_19 rfl ?_
  refine r_sipush dX11_passHour_20 (by decide) ?_
  refine r_icmp_ge dX11_passHour_23 rfl (fun c7 => ?_) (fun c7 => ?_)
  · refine r_aload_n dX11_passHour_54 rfl ?_
    refine r_getS (v := 486) dX11_passHour_55 kF11_61 (sh_o hS kk468 (by decide)) (sh_f hS rr468_28 (by decide)) ?_
    refine r_sipush dX11_passHour_58 (by decide) ?_
    refine r_dup2IR dX11_passHour_61 ?_
    refine r_ialoadK (k := 171) dX11_passHour_62 rfl (jro_ix (n := 352) (sh_r hS kk486 (by decide)) (by decide)) ?_
    refine r_iconst dX11_passHour_63 (by decide) ?_
    refine r_isub dX11_passHour_64 ?_
    refine r_iastoreK (k := 171) dX11_passHour_65 rfl ⟨jro_ix (n := 352) (sh_r hS kk486 (by decide)) (by decide), (by decide)⟩ ?_
    have K15 : ∀ N8 : jM, N8 = (si M 486 171 (w32 ((iv M 486 171) - (1 : Int)))) → Run (e + 1) mX11_passHour 66 [some (vR 468), some (vI l1)] [] N8 Q := by
      intro N8 hN14
      have sN9 : Shp N8 := by rw [hN14]; exact hS
      exact ((h.1 c7) N8 hN14 sN9)
    exact K15 _ rfl
  · refine r_aload_n dX11_passHour_26 rfl ?_
    refine r_getS (v := 486) dX11_passHour_27 kF11_61 (sh_o hS kk468 (by decide)) (sh_f hS rr468_28 (by decide)) ?_
    refine r_sipush dX11_passHour_30 (by decide) ?_
    refine r_iload_n dX11_passHour_33 rfl ?_
    refine r_iadd dX11_passHour_34 ?_
    refine r_iconst dX11_passHour_35 (by decide) ?_
    refine r_isub dX11_passHour_36 ?_
    refine r_aload_n dX11_passHour_37 rfl ?_
    refine r_getS (v := 486) dX11_passHour_38 kF11_61 (sh_o hS kk468 (by decide)) (sh_f hS rr468_28 (by decide)) ?_
    refine r_sipush dX11_passHour_41 (by decide) ?_
    refine r_iload_n dX11_passHour_44 rfl ?_
    refine r_iadd dX11_passHour_45 ?_
    have ob10 := (h.2 c7).1
    refine r_iaload dX11_passHour_46 (jro_ix (sh_r hS kk486 (by decide)) ob10) ?_
    have ob11 := (h.2 c7).2.1
    refine r_iastore dX11_passHour_47 ⟨jro_ix (sh_r hS kk486 (by decide)) ob11, (by decide)⟩ ?_
    have K17 : ∀ N12 : jM, N12 = (si M 486 (w32 ((w32 ((172 : Int) + l1)) - (3 : Int))).toNat (iv M 486 (w32 ((172 : Int) + l1)).toNat)) → Run (e + 1) mX11_passHour 48 [some (vR 468), some (vI l1)] [] N12 Q := by
      intro N12 hN16
      have sN13 : Shp N12 := by rw [hN16]; exact hS
      refine r_iinc (ls2 := [some (vR 468), some (vI (w32 (l1 + (1 : Int))))]) dX11_passHour_48 rfl rfl ?_
      refine r_goto (tgt := 19) dX11_passHour_51 rfl ?_
      exact ((h.2 c7).2.2 N12 hN16 sN13)
    exact K17 _ rfl
theorem vn_passHour_66 {e : Nat} {M : jM} {Q : Option jV → jM → Prop} {l1 : Option jV}  (he : 6 ≤ e) (hS : Shp M)
  (h : Call e mX11_floating [vR 468] M (fun r21 M19 => ∃ z18 : Int, r21 = some (vI z18) ∧ Shp M19 ∧ ((0 ≤ (w32 ((172 : Int) + (w32 ((3 : Int) * (iv M 486 171))))) ∧ (w32 ((172 : Int) + (w32 ((3 : Int) * (iv M 486 171))))) < 352) ∧ (∀ N24 : jM, N24 = (si M19 486 (w32 ((172 : Int) + (w32 ((3 : Int) * (iv M 486 171))))).toNat z18) → Shp N24 → (∀ v26 : Int, v26 = (w32 ((w32 ((172 : Int) + (w32 ((3 : Int) * (iv M 486 171))))) + (1 : Int))) → (Call e mX11_sinking [vR 468] N24 (fun r30 M28 => ∃ z27 : Int, r30 = some (vI z27) ∧ Shp M28 ∧ ((0 ≤ v26 ∧ v26 < 352) ∧ (∀ N33 : jM, N33 = (si M28 486 (v26).toNat z27) → Shp N33 → (∀ v35 : Int, v35 = (w32 ((w32 ((172 : Int) + (w32 ((3 : Int) * (iv M 486 171))))) + (2 : Int))) → (Call e mX11_thoughtMany [vR 468] N33 (fun r39 M37 => ∃ z36 : Int, r39 = some (vI z36) ∧ Shp M37 ∧ ((0 ≤ v35 ∧ v35 < 352) ∧ (∀ N42 : jM, N42 = (si M37 486 (v35).toNat z36) → Shp N42 → (∀ N44 : jM, N44 = (si N42 486 171 (w32 ((iv N42 486 171) + (1 : Int)))) → Shp N44 → (Q none N44)))))))))))))))) :
  Run (e + 1) mX11_passHour 66 [some (vR 468), l1] [] M Q := by
  refine r_sipush dX11_passHour_66 (by decide) ?_
  refine r_iconst dX11_passHour_69 (by decide) ?_
  refine r_aload_n dX11_passHour_70 rfl ?_
  refine r_getS (v := 486) dX11_passHour_71 kF11_61 (sh_o hS kk468 (by decide)) (sh_f hS rr468_28 (by decide)) ?_
  refine r_sipush dX11_passHour_74 (by decide) ?_
  refine r_ialoadK (k := 171) dX11_passHour_77 rfl (jro_ix (n := 352) (sh_r hS kk486 (by decide)) (by decide)) ?_
  refine r_imul dX11_passHour_78 ?_
  refine r_iadd dX11_passHour_79 ?_
  refine r_istore_n (ls2 := [some (vR 468), some (vI (w32 ((172 : Int) + (w32 ((3 : Int) * (iv M 486 171))))))]) dX11_passHour_80 (Nat.le_of_ble_eq_true rfl) rfl ?_
  refine r_aload_n dX11_passHour_81 rfl ?_
  refine r_getS (v := 486) dX11_passHour_82 kF11_61 (sh_o hS kk468 (by decide)) (sh_f hS rr468_28 (by decide)) ?_
  refine r_iload_n dX11_passHour_85 rfl ?_
  refine r_aload_n dX11_passHour_86 rfl ?_
  refine r_invV_i dX11_passHour_87 kM11_357 (by decide) (Nat.le_of_ble_eq_true rfl) rfl rfl (Nat.le_of_ble_eq_true rfl) (Nat.le_of_ble_eq_true rfl) (sh_o hS kk468 (by decide)) (Call.mono h (Nat.le_refl _) ?_)
  rintro _ M19 ⟨z18, rfl, s22, h20⟩
  refine ⟨_, rfl, ?_⟩
  have ob23 := h20.1
  refine r_iastore dX11_passHour_90 ⟨jro_ix (sh_r s22 kk486 (by decide)) ob23, (by decide)⟩ ?_
  have K47 : ∀ N24 : jM, N24 = (si M19 486 (w32 ((172 : Int) + (w32 ((3 : Int) * (iv M 486 171))))).toNat z18) → Run (e + 1) mX11_passHour 91 [some (vR 468), some (vI (w32 ((172 : Int) + (w32 ((3 : Int) * (iv M 486 171))))))] [] N24 Q := by
    intro N24 hN46
    have sN25 : Shp N24 := by rw [hN46]; exact s22
    refine r_aload_n dX11_passHour_91 rfl ?_
    refine r_getS (v := 486) dX11_passHour_92 kF11_61 (sh_o sN25 kk468 (by decide)) (sh_f sN25 rr468_28 (by decide)) ?_
    refine r_iload_n dX11_passHour_95 rfl ?_
    refine r_iconst dX11_passHour_96 (by decide) ?_
    refine r_iadd dX11_passHour_97 ?_
    have K49 : ∀ v26 : Int, v26 = (w32 ((w32 ((172 : Int) + (w32 ((3 : Int) * (iv M 486 171))))) + (1 : Int))) → Run (e + 1) mX11_passHour 98 [some (vR 468), some (vI (w32 ((172 : Int) + (w32 ((3 : Int) * (iv M 486 171))))))] [vI v26, vR 486] N24 Q := by
      intro v26 hv48
      refine r_aload_n dX11_passHour_98 rfl ?_
      refine r_invV_i dX11_passHour_99 kM11_360 (by decide) (Nat.le_of_ble_eq_true rfl) rfl rfl (Nat.le_of_ble_eq_true rfl) (Nat.le_of_ble_eq_true rfl) (sh_o sN25 kk468 (by decide)) (Call.mono ((h20.2 N24 hN46 sN25) v26 hv48) (Nat.le_refl _) ?_)
      rintro _ M28 ⟨z27, rfl, s31, h29⟩
      refine ⟨_, rfl, ?_⟩
      have ob32 := h29.1
      refine r_iastore dX11_passHour_102 ⟨jro_ix (sh_r s31 kk486 (by decide)) ob32, (by decide)⟩ ?_
      have K51 : ∀ N33 : jM, N33 = (si M28 486 (v26).toNat z27) → Run (e + 1) mX11_passHour 103 [some (vR 468), some (vI (w32 ((172 : Int) + (w32 ((3 : Int) * (iv M 486 171))))))] [] N33 Q := by
        intro N33 hN50
        have sN34 : Shp N33 := by rw [hN50]; exact s31
        refine r_aload_n dX11_passHour_103 rfl ?_
        refine r_getS (v := 486) dX11_passHour_104 kF11_61 (sh_o sN34 kk468 (by decide)) (sh_f sN34 rr468_28 (by decide)) ?_
        refine r_iload_n dX11_passHour_107 rfl ?_
        refine r_iconst dX11_passHour_108 (by decide) ?_
        refine r_iadd dX11_passHour_109 ?_
        have K53 : ∀ v35 : Int, v35 = (w32 ((w32 ((172 : Int) + (w32 ((3 : Int) * (iv M 486 171))))) + (2 : Int))) → Run (e + 1) mX11_passHour 110 [some (vR 468), some (vI (w32 ((172 : Int) + (w32 ((3 : Int) * (iv M 486 171))))))] [vI v35, vR 486] N33 Q := by
          intro v35 hv52
          refine r_aload_n dX11_passHour_110 rfl ?_
          refine r_invV_i dX11_passHour_111 kM11_363 (by decide) (Nat.le_of_ble_eq_true rfl) rfl rfl (Nat.le_of_ble_eq_true rfl) (Nat.le_of_ble_eq_true rfl) (sh_o sN34 kk468 (by decide)) (Call.mono ((h29.2 N33 hN50 sN34) v35 hv52) (Nat.le_refl _) ?_)
          rintro _ M37 ⟨z36, rfl, s40, h38⟩
          refine ⟨_, rfl, ?_⟩
          have ob41 := h38.1
          refine r_iastore dX11_passHour_114 ⟨jro_ix (sh_r s40 kk486 (by decide)) ob41, (by decide)⟩ ?_
          have K55 : ∀ N42 : jM, N42 = (si M37 486 (v35).toNat z36) → Run (e + 1) mX11_passHour 115 [some (vR 468), some (vI (w32 ((172 : Int) + (w32 ((3 : Int) * (iv M 486 171))))))] [] N42 Q := by
            intro N42 hN54
            have sN43 : Shp N42 := by rw [hN54]; exact s40
            refine r_aload_n dX11_passHour_115 rfl ?_
            refine r_getS (v := 486) dX11_passHour_116 kF11_61 (sh_o sN43 kk468 (by decide)) (sh_f sN43 rr468_28 (by decide)) ?_
            refine r_sipush dX11_passHour_119 (by decide) ?_
            refine r_dup2IR dX11_passHour_122 ?_
            refine r_ialoadK (k := 171) dX11_passHour_123 rfl (jro_ix (n := 352) (sh_r sN43 kk486 (by decide)) (by decide)) ?_
            refine r_iconst dX11_passHour_124 (by decide) ?_
            refine r_iadd dX11_passHour_125 ?_
            refine r_iastoreK (k := 171) dX11_passHour_126 rfl ⟨jro_ix (n := 352) (sh_r sN43 kk486 (by decide)) (by decide), (by decide)⟩ ?_
            have K57 : ∀ N44 : jM, N44 = (si N42 486 171 (w32 ((iv N42 486 171) + (1 : Int)))) → Run (e + 1) mX11_passHour 127 [some (vR 468), some (vI (w32 ((172 : Int) + (w32 ((3 : Int) * (iv M 486 171))))))] [] N44 Q := by
              intro N44 hN56
              have sN45 : Shp N44 := by rw [hN56]; exact sN43
              exact r_vret dX11_passHour_127 rfl ((h38.2 N42 hN54 sN43) N44 hN56 sN45)
            exact K57 _ rfl
          exact K55 _ rfl
        exact K53 _ rfl
      exact K51 _ rfl
    exact K49 _ rfl
  exact K47 _ rfl
theorem vn_keep {e : Nat} {M : jM} {Q : Option jV → jM → Prop}  (he : 6 ≤ e) (hS : Shp M)
  (h : (((iv M 468 33) ≠ (40 : Int)) → (Run (e + 1) mX11_keep 54 [some (vR 468), some (vI (0 : Int))] [] M Q)) ∧ (¬ ((iv M 468 33) ≠ (40 : Int)) → (Run (e + 1) mX11_keep 13 [some (vR 468), some (vI (352 : Int))] [] M Q))) :
  Call (e + 1) mX11_keep [vR 468] M Q := by
  show Run (e + 1) mX11_keep 0 [some (vR 468), none] [] M Q
  refine r_aload_n dX11_keep_0 rfl ?_
  refine r_get0 dX11_keep_1 kF11_296 (sh_o hS kk468 (by decide)) ?_
  refine r_bipush dX11_keep_4 (by decide) ?_
  refine r_icmp_ne dX11_keep_6 rfl (fun c1 => ?_) (fun c1 => ?_)
  · refine r_iconst dX11_keep_52 (by decide) ?_
    refine r_istore_n (ls2 := [some (vR 468), some (vI (0 : Int))]) dX11_keep_53 (Nat.le_of_ble_eq_true rfl) rfl ?_
    exact (h.1 c1)
  · refine r_sipush dX11_keep_9 (by decide) ?_
    refine r_istore_n (ls2 := [some (vR 468), some (vI (352 : Int))]) dX11_keep_12 (Nat.le_of_ble_eq_true rfl) rfl ?_
    exact (h.2 c1)
theorem vn_keep_13 {e : Nat} {M : jM} {Q : Option jV → jM → Prop} {l1 : Int}  (he : 6 ≤ e) (hS : Shp M)
  (h : (((14080 : Int) ≤ l1) → (∀ N3 : jM, N3 = (si M 468 33 (w32 ((iv M 468 33) - (1 : Int)))) → Shp N3 → (Run (e + 1) mX11_keep 54 [some (vR 468), some (vI (0 : Int))] [] N3 Q))) ∧ (¬ ((14080 : Int) ≤ l1) → ((0 ≤ l1 ∧ l1 < 14080) ∧ ((0 ≤ (w32 (l1 - (352 : Int))) ∧ (w32 (l1 - (352 : Int))) < 14080) ∧ (∀ N7 : jM, N7 = (si M 488 (w32 (l1 - (352 : Int))).toNat (iv M 488 (l1).toNat)) → Shp N7 → (Run (e + 1) mX11_keep 13 [some (vR 468), some (vI (w32 (l1 + (1 : Int))))] [] N7 Q)))))) :
  Run (e + 1) mX11_keep 13 [some (vR 468), some (vI l1)] [] M Q := by
  refine r_iload_n dX11_keep_13 rfl ?_
  refine r_sipush dX11_keep_14 (by decide) ?_
  refine r_icmp_ge dX11_keep_17 rfl (fun c2 => ?_) (fun c2 => ?_)
  · refine r_aload_n dX11_keep_42 rfl ?_
    refine r_dupR dX11_keep_43 ?_
    refine r_get0 dX11_keep_44 kF11_296 (sh_o hS kk468 (by decide)) ?_
    refine r_iconst dX11_keep_47 (by decide) ?_
    refine r_isub dX11_keep_48 ?_
    refine r_put0 dX11_keep_49 kF11_296 (sh_o hS kk468 (by decide)) (Or.inl rfl) ?_
    have K10 : ∀ N3 : jM, N3 = (si M 468 33 (w32 ((iv M 468 33) - (1 : Int)))) → Run (e + 1) mX11_keep 52 [some (vR 468), some (vI l1)] [] N3 Q := by
      intro N3 hN9
      have sN4 : Shp N3 := by rw [hN9]; exact hS
      refine r_iconst dX11_keep_52 (by decide) ?_
      refine r_istore_n (ls2 := [some (vR 468), some (vI (0 : Int))]) dX11_keep_53 (Nat.le_of_ble_eq_true rfl) rfl ?_
      exact ((h.1 c2) N3 hN9 sN4)
    exact K10 _ rfl
  · refine r_aload_n dX11_keep_20 rfl ?_
    refine r_getS (v := 488) dX11_keep_21 kF11_74 (sh_o hS kk468 (by decide)) (sh_f hS rr468_32 (by decide)) ?_
    refine r_iload_n dX11_keep_24 rfl ?_
    refine r_sipush dX11_keep_25 (by decide) ?_
    refine r_isub dX11_keep_28 ?_
    refine r_aload_n dX11_keep_29 rfl ?_
    refine r_getS (v := 488) dX11_keep_30 kF11_74 (sh_o hS kk468 (by decide)) (sh_f hS rr468_32 (by decide)) ?_
    refine r_iload_n dX11_keep_33 rfl ?_
    have ob5 := (h.2 c2).1
    refine r_iaload dX11_keep_34 (jro_ix (sh_r hS kk488 (by decide)) ob5) ?_
    have ob6 := (h.2 c2).2.1
    refine r_iastore dX11_keep_35 ⟨jro_ix (sh_r hS kk488 (by decide)) ob6, (by decide)⟩ ?_
    have K12 : ∀ N7 : jM, N7 = (si M 488 (w32 (l1 - (352 : Int))).toNat (iv M 488 (l1).toNat)) → Run (e + 1) mX11_keep 36 [some (vR 468), some (vI l1)] [] N7 Q := by
      intro N7 hN11
      have sN8 : Shp N7 := by rw [hN11]; exact hS
      refine r_iinc (ls2 := [some (vR 468), some (vI (w32 (l1 + (1 : Int))))]) dX11_keep_36 rfl rfl ?_
      refine r_goto (tgt := 13) dX11_keep_39 rfl ?_
      exact ((h.2 c2).2.2 N7 hN11 sN8)
    exact K12 _ rfl
theorem vn_keep_54 {e : Nat} {M : jM} {Q : Option jV → jM → Prop} {l1 : Int}  (he : 6 ≤ e) (hS : Shp M)
  (h : (((352 : Int) ≤ l1) → (∀ N14 : jM, N14 = (si M 468 33 (w32 ((iv M 468 33) + (1 : Int)))) → Shp N14 → (Q none N14))) ∧ (¬ ((352 : Int) ≤ l1) → ((0 ≤ l1 ∧ l1 < 352) ∧ ((0 ≤ (w32 ((w32 ((352 : Int) * (iv M 468 33))) + l1)) ∧ (w32 ((w32 ((352 : Int) * (iv M 468 33))) + l1)) < 14080) ∧ (∀ N18 : jM, N18 = (si M 488 (w32 ((w32 ((352 : Int) * (iv M 468 33))) + l1)).toNat (iv M 486 (l1).toNat)) → Shp N18 → (Run (e + 1) mX11_keep 54 [some (vR 468), some (vI (w32 (l1 + (1 : Int))))] [] N18 Q)))))) :
  Run (e + 1) mX11_keep 54 [some (vR 468), some (vI l1)] [] M Q := by
  refine r_iload_n dX11_keep_54 rfl ?_
  refine r_sipush dX11_keep_55 (by decide) ?_
  refine r_icmp_ge dX11_keep_58 rfl (fun c13 => ?_) (fun c13 => ?_)
  · refine r_aload_n dX11_keep_88 rfl ?_
    refine r_dupR dX11_keep_89 ?_
    refine r_get0 dX11_keep_90 kF11_296 (sh_o hS kk468 (by decide)) ?_
    refine r_iconst dX11_keep_93 (by decide) ?_
    refine r_iadd dX11_keep_94 ?_
    refine r_put0 dX11_keep_95 kF11_296 (sh_o hS kk468 (by decide)) (Or.inl rfl) ?_
    have K21 : ∀ N14 : jM, N14 = (si M 468 33 (w32 ((iv M 468 33) + (1 : Int)))) → Run (e + 1) mX11_keep 98 [some (vR 468), some (vI l1)] [] N14 Q := by
      intro N14 hN20
      have sN15 : Shp N14 := by rw [hN20]; exact hS
      exact r_vret dX11_keep_98 rfl ((h.1 c13) N14 hN20 sN15)
    exact K21 _ rfl
  · refine r_aload_n dX11_keep_61 rfl ?_
    refine r_getS (v := 488) dX11_keep_62 kF11_74 (sh_o hS kk468 (by decide)) (sh_f hS rr468_32 (by decide)) ?_
    refine r_sipush dX11_keep_65 (by decide) ?_
    refine r_aload_n dX11_keep_68 rfl ?_
    refine r_get0 dX11_keep_69 kF11_296 (sh_o hS kk468 (by decide)) ?_
    refine r_imul dX11_keep_72 ?_
    refine r_iload_n dX11_keep_73 rfl ?_
    refine r_iadd dX11_keep_74 ?_
    refine r_aload_n dX11_keep_75 rfl ?_
    refine r_getS (v := 486) dX11_keep_76 kF11_61 (sh_o hS kk468 (by decide)) (sh_f hS rr468_28 (by decide)) ?_
    refine r_iload_n dX11_keep_79 rfl ?_
    have ob16 := (h.2 c13).1
    refine r_iaload dX11_keep_80 (jro_ix (sh_r hS kk486 (by decide)) ob16) ?_
    have ob17 := (h.2 c13).2.1
    refine r_iastore dX11_keep_81 ⟨jro_ix (sh_r hS kk488 (by decide)) ob17, (by decide)⟩ ?_
    have K23 : ∀ N18 : jM, N18 = (si M 488 (w32 ((w32 ((352 : Int) * (iv M 468 33))) + l1)).toNat (iv M 486 (l1).toNat)) → Run (e + 1) mX11_keep 82 [some (vR 468), some (vI l1)] [] N18 Q := by
      intro N18 hN22
      have sN19 : Shp N18 := by rw [hN22]; exact hS
      refine r_iinc (ls2 := [some (vR 468), some (vI (w32 (l1 + (1 : Int))))]) dX11_keep_82 rfl rfl ?_
      refine r_goto (tgt := 54) dX11_keep_85 rfl ?_
      exact ((h.2 c13).2.2 N18 hN22 sN19)
    exact K23 _ rfl
theorem vn_isRefused {e : Nat} {M : jM} {Q : Option jV → jM → Prop} {w : Int} (he : 6 ≤ e) (hS : Shp M)
  (h : ((w = (-1 : Int)) → (Q (some (vI (if w = (-1 : Int) then (0 : Int) else (1 : Int)))) M)) ∧ (¬ (w = (-1 : Int)) → ((0 ≤ w ∧ w < 5) ∧ (∀ N3 : jM, N3 = (si M 487 (w).toNat (w32 ((iv M 487 (w).toNat) + (1 : Int)))) → Shp N3 → (Q (some (vI (if w = (-1 : Int) then (0 : Int) else (1 : Int)))) N3))))) :
  Call (e + 1) mX11_isRefused [vR 468, vI w] M Q := by
  show Run (e + 1) mX11_isRefused 0 [some (vR 468), some (vI w)] [] M Q
  refine r_iload_n dX11_isRefused_0 rfl ?_
  refine r_iconst dX11_isRefused_1 (by decide) ?_
  refine r_icmp_eq dX11_isRefused_2 rfl (fun c1 => ?_) (fun c1 => ?_)
  · refine r_iload_n dX11_isRefused_15 rfl ?_
    refine r_iconst dX11_isRefused_16 (by decide) ?_
    have K5 : Run (e + 1) mX11_isRefused 25 [some (vR 468), some (vI w)] [vI (if w = (-1 : Int) then (0 : Int) else (1 : Int))] M Q := by
      exact r_zret dX11_isRefused_25 rfl (by (repeat' split) <;> first | exact Or.inl rfl | exact Or.inr rfl) (h.1 c1)
    refine r_icmp_eq dX11_isRefused_17 rfl (fun q6 => ?_) (fun q6 => ?_)
    · rw [if_pos q6] at K5
      refine r_iconst dX11_isRefused_24 (by decide) ?_
      exact K5
    · rw [if_neg q6] at K5
      refine r_iconst dX11_isRefused_20 (by decide) ?_
      refine r_goto (tgt := 25) dX11_isRefused_21 rfl ?_
      exact K5
  · refine r_aload_n dX11_isRefused_5 rfl ?_
    refine r_getS (v := 487) dX11_isRefused_6 kF11_64 (sh_o hS kk468 (by decide)) (sh_f hS rr468_29 (by decide)) ?_
    refine r_iload_n dX11_isRefused_9 rfl ?_
    refine r_dup2IR dX11_isRefused_10 ?_
    have ob2 := (h.2 c1).1
    refine r_iaload dX11_isRefused_11 (jro_ix (sh_r hS kk487 (by decide)) ob2) ?_
    refine r_iconst dX11_isRefused_12 (by decide) ?_
    refine r_iadd dX11_isRefused_13 ?_
    refine r_iastore dX11_isRefused_14 ⟨jro_ix (sh_r hS kk487 (by decide)) ob2, (by decide)⟩ ?_
    have K9 : ∀ N3 : jM, N3 = (si M 487 (w).toNat (w32 ((iv M 487 (w).toNat) + (1 : Int)))) → Run (e + 1) mX11_isRefused 15 [some (vR 468), some (vI w)] [] N3 Q := by
      intro N3 hN8
      have sN4 : Shp N3 := by rw [hN8]; exact hS
      refine r_iload_n dX11_isRefused_15 rfl ?_
      refine r_iconst dX11_isRefused_16 (by decide) ?_
      have K10 : Run (e + 1) mX11_isRefused 25 [some (vR 468), some (vI w)] [vI (if w = (-1 : Int) then (0 : Int) else (1 : Int))] N3 Q := by
        exact r_zret dX11_isRefused_25 rfl (by (repeat' split) <;> first | exact Or.inl rfl | exact Or.inr rfl) ((h.2 c1).2 N3 hN8 sN4)
      refine r_icmp_eq dX11_isRefused_17 rfl (fun q11 => ?_) (fun q11 => ?_)
      · rw [if_pos q11] at K10
        refine r_iconst dX11_isRefused_24 (by decide) ?_
        exact K10
      · rw [if_neg q11] at K10
        refine r_iconst dX11_isRefused_20 (by decide) ?_
        refine r_goto (tgt := 25) dX11_isRefused_21 rfl ?_
        exact K10
    exact K9 _ rfl
theorem vn_areHours {e : Nat} {M : jM} {Q : Option jV → jM → Prop} {n : Int} (he : 6 ≤ e) (hS : Shp M)
  (h : Q (some (vI (if (fIn n (1 : Int) (60 : Int)) = (0 : Int) then (0 : Int) else (if (9999 : Int) < (w32 ((iv M 486 170) + n)) then (0 : Int) else (1 : Int))))) M) :
  Call (e + 1) mX11_areHours [vR 468, vI n] M Q := by
  show Run (e + 1) mX11_areHours 0 [some (vR 468), some (vI n)] [] M Q
  refine r_iload_n dX11_areHours_0 rfl ?_
  refine r_iconst dX11_areHours_1 (by decide) ?_
  refine r_bipush dX11_areHours_2 (by decide) ?_
  refine r_invS_i dX11_areHours_4 (by decide) kXn11_224 kM11_224 (by decide) (Nat.le_of_ble_eq_true rfl) rfl rfl (Nat.le_of_ble_eq_true rfl) (Nat.le_of_ble_eq_true rfl) (m_in (by omega) hS ⟨_, rfl, ?_⟩)
  have K1 : Run (e + 1) mX11_areHours 31 [some (vR 468), some (vI n)] [vI (if (fIn n (1 : Int) (60 : Int)) = (0 : Int) then (0 : Int) else (if (9999 : Int) < (w32 ((iv M 486 170) + n)) then (0 : Int) else (1 : Int)))] M Q := by
    exact r_zret dX11_areHours_31 rfl (by (repeat' split) <;> first | exact Or.inl rfl | exact Or.inr rfl) h
  refine r_if_eq dX11_areHours_7 rfl (fun q2 => ?_) (fun q2 => ?_)
  · rw [if_pos q2] at K1
    refine r_iconst dX11_areHours_30 (by decide) ?_
    exact K1
  · rw [if_neg q2] at K1
    refine r_aload_n dX11_areHours_10 rfl ?_
    refine r_getS (v := 486) dX11_areHours_11 kF11_61 (sh_o hS kk468 (by decide)) (sh_f hS rr468_28 (by decide)) ?_
    refine r_sipush dX11_areHours_14 (by decide) ?_
    refine r_ialoadK (k := 170) dX11_areHours_17 rfl (jro_ix (n := 352) (sh_r hS kk486 (by decide)) (by decide)) ?_
    refine r_iload_n dX11_areHours_18 rfl ?_
    refine r_iadd dX11_areHours_19 ?_
    refine r_sipush dX11_areHours_20 (by decide) ?_
    refine r_icmp_gt dX11_areHours_23 rfl (fun q4 => ?_) (fun q4 => ?_)
    · rw [if_pos q4] at K1
      refine r_iconst dX11_areHours_30 (by decide) ?_
      exact K1
    · rw [if_neg q4] at K1
      refine r_iconst dX11_areHours_26 (by decide) ?_
      refine r_goto (tgt := 31) dX11_areHours_27 rfl ?_
      exact K1
theorem vn_putAside {e : Nat} {M : jM} {Q : Option jV → jM → Prop} {dp : Int} (he : 6 ≤ e) (hS : Shp M)
  (h : Run (e + 1) mX11_putAside 2 [some (vR 468), some (vI dp), some (vI (0 : Int))] [] M Q) :
  Call (e + 1) mX11_putAside [vR 468, vI dp] M Q := by
  show Run (e + 1) mX11_putAside 0 [some (vR 468), some (vI dp), none] [] M Q
  refine r_iconst dX11_putAside_0 (by decide) ?_
  refine r_istore_n (ls2 := [some (vR 468), some (vI dp), some (vI (0 : Int))]) dX11_putAside_1 (Nat.le_of_ble_eq_true rfl) rfl ?_
  exact h
theorem vn_putAside_2 {e : Nat} {M : jM} {Q : Option jV → jM → Prop} {dp : Int} {l2 : Int}  (he : 6 ≤ e) (hS : Shp M)
  (h : (((171 : Int) ≤ l2) → (Q none M)) ∧ (¬ ((171 : Int) ≤ l2) → ((0 ≤ l2 ∧ l2 < 352) ∧ ((0 ≤ (w32 ((w32 ((171 : Int) * dp)) + l2)) ∧ (w32 ((w32 ((171 : Int) * dp)) + l2)) < 1539) ∧ (∀ N4 : jM, N4 = (si M 489 (w32 ((w32 ((171 : Int) * dp)) + l2)).toNat (iv M 486 (l2).toNat)) → Shp N4 → (Run (e + 1) mX11_putAside 2 [some (vR 468), some (vI dp), some (vI (w32 (l2 + (1 : Int))))] [] N4 Q)))))) :
  Run (e + 1) mX11_putAside 2 [some (vR 468), some (vI dp), some (vI l2)] [] M Q := by
  refine r_iload_n dX11_putAside_2 rfl ?_
  refine r_sipush dX11_putAside_3 (by decide) ?_
  refine r_icmp_ge dX11_putAside_6 rfl (fun c1 => ?_) (fun c1 => ?_)
  · exact r_vret dX11_putAside_33 rfl (h.1 c1)
  · refine r_aload_n dX11_putAside_9 rfl ?_
    refine r_getS (v := 489) dX11_putAside_10 kF11_77 (sh_o hS kk468 (by decide)) (sh_f hS rr468_35 (by decide)) ?_
    refine r_sipush dX11_putAside_13 (by decide) ?_
    refine r_iload_n dX11_putAside_16 rfl ?_
    refine r_imul dX11_putAside_17 ?_
    refine r_iload_n dX11_putAside_18 rfl ?_
    refine r_iadd dX11_putAside_19 ?_
    refine r_aload_n dX11_putAside_20 rfl ?_
    refine r_getS (v := 486) dX11_putAside_21 kF11_61 (sh_o hS kk468 (by decide)) (sh_f hS rr468_28 (by decide)) ?_
    refine r_iload_n dX11_putAside_24 rfl ?_
    have ob2 := (h.2 c1).1
    refine r_iaload dX11_putAside_25 (jro_ix (sh_r hS kk486 (by decide)) ob2) ?_
    have ob3 := (h.2 c1).2.1
    refine r_iastore dX11_putAside_26 ⟨jro_ix (sh_r hS kk489 (by decide)) ob3, (by decide)⟩ ?_
    have K7 : ∀ N4 : jM, N4 = (si M 489 (w32 ((w32 ((171 : Int) * dp)) + l2)).toNat (iv M 486 (l2).toNat)) → Run (e + 1) mX11_putAside 27 [some (vR 468), some (vI dp), some (vI l2)] [] N4 Q := by
      intro N4 hN6
      have sN5 : Shp N4 := by rw [hN6]; exact hS
      refine r_iinc (ls2 := [some (vR 468), some (vI dp), some (vI (w32 (l2 + (1 : Int))))]) dX11_putAside_27 rfl rfl ?_
      refine r_goto (tgt := 2) dX11_putAside_30 rfl ?_
      exact ((h.2 c1).2.2 N4 hN6 sN5)
    exact K7 _ rfl
theorem vn_takeBack {e : Nat} {M : jM} {Q : Option jV → jM → Prop} {dp : Int} (he : 6 ≤ e) (hS : Shp M)
  (h : Run (e + 1) mX11_takeBack 2 [some (vR 468), some (vI dp), some (vI (0 : Int))] [] M Q) :
  Call (e + 1) mX11_takeBack [vR 468, vI dp] M Q := by
  show Run (e + 1) mX11_takeBack 0 [some (vR 468), some (vI dp), none] [] M Q
  refine r_iconst dX11_takeBack_0 (by decide) ?_
  refine r_istore_n (ls2 := [some (vR 468), some (vI dp), some (vI (0 : Int))]) dX11_takeBack_1 (Nat.le_of_ble_eq_true rfl) rfl ?_
  exact h
theorem vn_takeBack_2 {e : Nat} {M : jM} {Q : Option jV → jM → Prop} {dp : Int} {l2 : Int}  (he : 6 ≤ e) (hS : Shp M)
  (h : (((171 : Int) ≤ l2) → (Q none M)) ∧ (¬ ((171 : Int) ≤ l2) → ((0 ≤ (w32 ((w32 ((171 : Int) * dp)) + l2)) ∧ (w32 ((w32 ((171 : Int) * dp)) + l2)) < 1539) ∧ ((0 ≤ l2 ∧ l2 < 352) ∧ (∀ N4 : jM, N4 = (si M 486 (l2).toNat (iv M 489 (w32 ((w32 ((171 : Int) * dp)) + l2)).toNat)) → Shp N4 → (Run (e + 1) mX11_takeBack 2 [some (vR 468), some (vI dp), some (vI (w32 (l2 + (1 : Int))))] [] N4 Q)))))) :
  Run (e + 1) mX11_takeBack 2 [some (vR 468), some (vI dp), some (vI l2)] [] M Q := by
  refine r_iload_n dX11_takeBack_2 rfl ?_
  refine r_sipush dX11_takeBack_3 (by decide) ?_
  refine r_icmp_ge dX11_takeBack_6 rfl (fun c1 => ?_) (fun c1 => ?_)
  · exact r_vret dX11_takeBack_33 rfl (h.1 c1)
  · refine r_aload_n dX11_takeBack_9 rfl ?_
    refine r_getS (v := 486) dX11_takeBack_10 kF11_61 (sh_o hS kk468 (by decide)) (sh_f hS rr468_28 (by decide)) ?_
    refine r_iload_n dX11_takeBack_13 rfl ?_
    refine r_aload_n dX11_takeBack_14 rfl ?_
    refine r_getS (v := 489) dX11_takeBack_15 kF11_77 (sh_o hS kk468 (by decide)) (sh_f hS rr468_35 (by decide)) ?_
    refine r_sipush dX11_takeBack_18 (by decide) ?_
    refine r_iload_n dX11_takeBack_21 rfl ?_
    refine r_imul dX11_takeBack_22 ?_
    refine r_iload_n dX11_takeBack_23 rfl ?_
    refine r_iadd dX11_takeBack_24 ?_
    have ob2 := (h.2 c1).1
    refine r_iaload dX11_takeBack_25 (jro_ix (sh_r hS kk489 (by decide)) ob2) ?_
    have ob3 := (h.2 c1).2.1
    refine r_iastore dX11_takeBack_26 ⟨jro_ix (sh_r hS kk486 (by decide)) ob3, (by decide)⟩ ?_
    have K7 : ∀ N4 : jM, N4 = (si M 486 (l2).toNat (iv M 489 (w32 ((w32 ((171 : Int) * dp)) + l2)).toNat)) → Run (e + 1) mX11_takeBack 27 [some (vR 468), some (vI dp), some (vI l2)] [] N4 Q := by
      intro N4 hN6
      have sN5 : Shp N4 := by rw [hN6]; exact hS
      refine r_iinc (ls2 := [some (vR 468), some (vI dp), some (vI (w32 (l2 + (1 : Int))))]) dX11_takeBack_27 rfl rfl ?_
      refine r_goto (tgt := 2) dX11_takeBack_30 rfl ?_
      exact ((h.2 c1).2.2 N4 hN6 sN5)
    exact K7 _ rfl
theorem vn_layWeights {e : Nat} {M : jM} {Q : Option jV → jM → Prop}  (he : 6 ≤ e) (hS : Shp M)
  (h : Run (e + 1) mX11_layWeights 2 [some (vR 468), some (vI (0 : Int))] [] M Q) :
  Call (e + 1) mX11_layWeights [vR 468] M Q := by
  show Run (e + 1) mX11_layWeights 0 [some (vR 468), none] [] M Q
  refine r_iconst dX11_layWeights_0 (by decide) ?_
  refine r_istore_n (ls2 := [some (vR 468), some (vI (0 : Int))]) dX11_layWeights_1 (Nat.le_of_ble_eq_true rfl) rfl ?_
  exact h
theorem vn_layWeights_2 {e : Nat} {M : jM} {Q : Option jV → jM → Prop} {l1 : Int}  (he : 6 ≤ e) (hS : Shp M)
  (h : (((iv M 468 25) ≤ l1) → (Q none M)) ∧ (¬ ((iv M 468 25) ≤ l1) → (Call e mX11_weightOf [vR 468, vI l1] M (fun r5 M3 => ∃ z2 : Int, r5 = some (vL z2) ∧ Shp M3 ∧ ((0 ≤ l1 ∧ l1 < 8) ∧ (∀ N8 : jM, N8 = (sl M3 490 (l1).toNat z2) → Shp N8 → (Run (e + 1) mX11_layWeights 2 [some (vR 468), some (vI (w32 (l1 + (1 : Int))))] [] N8 Q))))))) :
  Run (e + 1) mX11_layWeights 2 [some (vR 468), some (vI l1)] [] M Q := by
  refine r_iload_n dX11_layWeights_2 rfl ?_
  refine r_aload_n dX11_layWeights_3 rfl ?_
  refine r_get0 dX11_layWeights_4 kF11_287 (sh_o hS kk468 (by decide)) ?_
  refine r_icmp_ge dX11_layWeights_7 rfl (fun c1 => ?_) (fun c1 => ?_)
  · exact r_vret dX11_layWeights_27 rfl (h.1 c1)
  · refine r_aload_n dX11_layWeights_10 rfl ?_
    refine r_getS (v := 490) dX11_layWeights_11 kF11_80 (sh_o hS kk468 (by decide)) (sh_f hS rr468_36 (by decide)) ?_
    refine r_iload_n dX11_layWeights_14 rfl ?_
    refine r_aload_n dX11_layWeights_15 rfl ?_
    refine r_iload_n dX11_layWeights_16 rfl ?_
    refine r_invV_l dX11_layWeights_17 kM11_340 (by decide) (Nat.le_of_ble_eq_true rfl) rfl rfl (Nat.le_of_ble_eq_true rfl) (Nat.le_of_ble_eq_true rfl) (sh_o hS kk468 (by decide)) (Call.mono (h.2 c1) (Nat.le_refl _) ?_)
    rintro _ M3 ⟨z2, rfl, s6, h4⟩
    refine ⟨_, rfl, ?_⟩
    have ob7 := h4.1
    refine r_lastore dX11_layWeights_20 ⟨jro_ix (sh_r s6 kk490 (by decide)) ob7, (by decide)⟩ ?_
    have K11 : ∀ N8 : jM, N8 = (sl M3 490 (l1).toNat z2) → Run (e + 1) mX11_layWeights 21 [some (vR 468), some (vI l1)] [] N8 Q := by
      intro N8 hN10
      have sN9 : Shp N8 := by rw [hN10]; exact s6
      refine r_iinc (ls2 := [some (vR 468), some (vI (w32 (l1 + (1 : Int))))]) dX11_layWeights_21 rfl rfl ?_
      refine r_goto (tgt := 2) dX11_layWeights_24 rfl ?_
      exact (h4.2 N8 hN10 sN9)
    exact K11 _ rfl
theorem vn_loadOf {e : Nat} {M : jM} {Q : Option jV → jM → Prop} {s : Int} (he : 6 ≤ e) (hS : Shp M)
  (h : Run (e + 1) mX11_loadOf 5 [some (vR 468), some (vI s), some (vL (0 : Int)), none, some (vI (0 : Int))] [] M Q) :
  Call (e + 1) mX11_loadOf [vR 468, vI s] M Q := by
  show Run (e + 1) mX11_loadOf 0 [some (vR 468), some (vI s), none, none, none] [] M Q
  refine r_lconst0 dX11_loadOf_0 ?_
  refine r_lstore_n (ls2 := [some (vR 468), some (vI s), some (vL (0 : Int)), none, none]) dX11_loadOf_1 (Nat.le_of_ble_eq_true rfl) rfl ?_
  refine r_iconst dX11_loadOf_2 (by decide) ?_
  refine r_istore (ls2 := [some (vR 468), some (vI s), some (vL (0 : Int)), none, some (vI (0 : Int))]) dX11_loadOf_3 (Nat.le_of_ble_eq_true rfl) rfl ?_
  exact h
theorem vn_loadOf_5 {e : Nat} {M : jM} {Q : Option jV → jM → Prop} {s : Int} {l2 : Int} {l4 : Int}  (he : 6 ≤ e) (hS : Shp M)
  (h : (((iv M 468 25) ≤ l4) → (Q (some (vL l2)) M)) ∧ (¬ ((iv M 468 25) ≤ l4) → ((((fHas s l4) = (0 : Int)) → (Run (e + 1) mX11_loadOf 5 [some (vR 468), some (vI s), some (vL l2), none, some (vI (w32 (l4 + (1 : Int))))] [] M Q)) ∧ (¬ ((fHas s l4) = (0 : Int)) → ((0 ≤ l4 ∧ l4 < 8) ∧ ((0 ≤ (w64 (l2 + (lg M 490 (l4).toNat))) ∧ (w64 (l2 + (lg M 490 (l4).toNat))) < 4611686018427387904) ∧ (Run (e + 1) mX11_loadOf 5 [some (vR 468), some (vI s), some (vL (rnd (w64 (l2 + (lg M 490 (l4).toNat))))), none, some (vI (w32 (l4 + (1 : Int))))] [] M Q))))))) :
  Run (e + 1) mX11_loadOf 5 [some (vR 468), some (vI s), some (vL l2), none, some (vI l4)] [] M Q := by
  refine r_iload dX11_loadOf_5 rfl ?_
  refine r_aload_n dX11_loadOf_7 rfl ?_
  refine r_get0 dX11_loadOf_8 kF11_287 (sh_o hS kk468 (by decide)) ?_
  refine r_icmp_ge dX11_loadOf_11 rfl (fun c1 => ?_) (fun c1 => ?_)
  · refine r_lload_n dX11_loadOf_46 rfl ?_
    exact r_lret dX11_loadOf_47 rfl (h.1 c1)
  · refine r_iload_n dX11_loadOf_14 rfl ?_
    refine r_iload dX11_loadOf_15 rfl ?_
    refine r_invS_i dX11_loadOf_17 (by decide) kXn11_235 kM11_235 (by decide) (Nat.le_of_ble_eq_true rfl) rfl rfl (Nat.le_of_ble_eq_true rfl) (Nat.le_of_ble_eq_true rfl) (m_has (by omega) hS ⟨_, rfl, ?_⟩)
    refine r_if_eq dX11_loadOf_20 rfl (fun c2 => ?_) (fun c2 => ?_)
    · refine r_lload_n dX11_loadOf_38 rfl ?_
      refine r_lstore_n (ls2 := [some (vR 468), some (vI s), some (vL l2), none, some (vI l4)]) dX11_loadOf_39 (Nat.le_of_ble_eq_true rfl) rfl ?_
      refine r_iinc (ls2 := [some (vR 468), some (vI s), some (vL l2), none, some (vI (w32 (l4 + (1 : Int))))]) dX11_loadOf_40 rfl rfl ?_
      refine r_goto (tgt := 5) dX11_loadOf_43 rfl ?_
      exact ((h.2 c1).1 c2)
    · refine r_lload_n dX11_loadOf_23 rfl ?_
      refine r_aload_n dX11_loadOf_24 rfl ?_
      refine r_getS (v := 490) dX11_loadOf_25 kF11_80 (sh_o hS kk468 (by decide)) (sh_f hS rr468_36 (by decide)) ?_
      refine r_iload dX11_loadOf_28 rfl ?_
      have ob3 := ((h.2 c1).2 c2).1
      refine r_laload dX11_loadOf_30 (jro_ix (sh_r hS kk490 (by decide)) ob3) ?_
      refine r_ladd dX11_loadOf_31 ?_
      have ob4 := ((h.2 c1).2 c2).2.1
      refine r_invS_l dX11_loadOf_32 (by decide) kXn11_325 kM11_325 (by decide) (Nat.le_of_ble_eq_true rfl) rfl rfl (Nat.le_of_ble_eq_true rfl) (Nat.le_of_ble_eq_true rfl) (d_rounded (by omega) hS ob4 ⟨_, rfl, ?_⟩)
      refine r_goto (tgt := 39) dX11_loadOf_35 rfl ?_
      refine r_lstore_n (ls2 := [some (vR 468), some (vI s), some (vL (rnd (w64 (l2 + (lg M 490 (l4).toNat))))), none, some (vI l4)]) dX11_loadOf_39 (Nat.le_of_ble_eq_true rfl) rfl ?_
      refine r_iinc (ls2 := [some (vR 468), some (vI s), some (vL (rnd (w64 (l2 + (lg M 490 (l4).toNat))))), none, some (vI (w32 (l4 + (1 : Int))))]) dX11_loadOf_40 rfl rfl ?_
      refine r_goto (tgt := 5) dX11_loadOf_43 rfl ?_
      exact ((h.2 c1).2 c2).2.2
theorem vn_doesBear {e : Nat} {M : jM} {Q : Option jV → jM → Prop} {s : Int} (he : 6 ≤ e) (hS : Shp M)
  (h : Call e mX11_loadOf [vR 468, vI s] M (fun r4 M2 => ∃ z1 : Int, r4 = some (vL z1) ∧ Shp M2 ∧ (Q (some (vI (if (0 : Int) < (jcmp z1 (w64 ((1000000 : Int) * (iv M2 482 2)))) then (0 : Int) else (1 : Int)))) M2))) :
  Call (e + 1) mX11_doesBear [vR 468, vI s] M Q := by
  show Run (e + 1) mX11_doesBear 0 [some (vR 468), some (vI s)] [] M Q
  refine r_aload_n dX11_doesBear_0 rfl ?_
  refine r_iload_n dX11_doesBear_1 rfl ?_
  refine r_invV_l dX11_doesBear_2 kM11_410 (by decide) (Nat.le_of_ble_eq_true rfl) rfl rfl (Nat.le_of_ble_eq_true rfl) (Nat.le_of_ble_eq_true rfl) (sh_o hS kk468 (by decide)) (Call.mono h (Nat.le_refl _) ?_)
  rintro _ M2 ⟨z1, rfl, s5, h3⟩
  refine ⟨_, rfl, ?_⟩
  refine r_ldc2 dX11_doesBear_5 kL11_201 ?_
  refine r_aload_n dX11_doesBear_8 rfl ?_
  refine r_getS (v := 482) dX11_doesBear_9 kF11_49 (sh_o s5 kk468 (by decide)) (sh_f s5 rr468_22 (by decide)) ?_
  refine r_iconst dX11_doesBear_12 (by decide) ?_
  refine r_ialoadK (k := 2) dX11_doesBear_13 rfl (jro_ix (n := 4) (sh_r s5 kk482 (by decide)) (by decide)) ?_
  refine r_i2l dX11_doesBear_14 ?_
  refine r_lmul dX11_doesBear_15 ?_
  refine r_lcmp dX11_doesBear_16 ?_
  have K6 : Run (e + 1) mX11_doesBear 25 [some (vR 468), some (vI s)] [vI (if (0 : Int) < (jcmp z1 (w64 ((1000000 : Int) * (iv M2 482 2)))) then (0 : Int) else (1 : Int))] M2 Q := by
    exact r_zret dX11_doesBear_25 rfl (by (repeat' split) <;> first | exact Or.inl rfl | exact Or.inr rfl) h3
  refine r_if_gt dX11_doesBear_17 rfl (fun q7 => ?_) (fun q7 => ?_)
  · rw [if_pos q7] at K6
    refine r_iconst dX11_doesBear_24 (by decide) ?_
    exact K6
  · rw [if_neg q7] at K6
    refine r_iconst dX11_doesBear_20 (by decide) ?_
    refine r_goto (tgt := 25) dX11_doesBear_21 rfl ?_
    exact K6
