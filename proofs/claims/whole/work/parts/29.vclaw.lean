theorem vl_joined {e : Nat} {M : jM} {Q : Option jV → jM → Prop} {sg : Int} {x : Int} {y : Int}  (hS : Shp M)
  (h : (sg = 38 → (Q (some (vL (jandL x y))) M)) ∧ (sg = 39 → (Q (some (vL (jorL x y))) M)) ∧ (sg = 40 → (Q (some (vL (jorL x y))) M)) ∧ (sg = 41 → (Q (some (vL (jorL x y))) M)) ∧ (sg = 42 → (Q (some (vL (w64 (x * y)))) M)) ∧ (sg = 43 → (Q (some (vL (w64 (x + y)))) M)) ∧ (sg = 44 → (Q (some (vL (jorL x y))) M)) ∧ (sg = 45 → (Q (some (vL (w64 (x - y)))) M)) ∧ (sg = 46 → (Q (some (vL (jorL x y))) M)) ∧ (sg = 47 → ((((jcmp y (0 : Int)) ≠ (0 : Int)) → (y ≠ 0 ∧ (Q (some (vL (jdivL x y))) M))) ∧ (¬ ((jcmp y (0 : Int)) ≠ (0 : Int)) → (Q (some (vL (0 : Int))) M)))) ∧ (sg = 48 → (Q (some (vL (jorL x y))) M)) ∧ (sg = 49 → (Q (some (vL (jorL x y))) M)) ∧ (sg = 50 → (Q (some (vL (jorL x y))) M)) ∧ (sg = 51 → (Q (some (vL (jorL x y))) M)) ∧ (sg = 52 → (Q (some (vL (jorL x y))) M)) ∧ (sg = 53 → (Q (some (vL (jorL x y))) M)) ∧ (sg = 54 → (Q (some (vL (jorL x y))) M)) ∧ (sg = 55 → (Q (some (vL (jorL x y))) M)) ∧ (sg = 56 → (Q (some (vL (jorL x y))) M)) ∧ (sg = 57 → (Q (some (vL (jorL x y))) M)) ∧ (sg = 58 → (Q (some (vL (jorL x y))) M)) ∧ (sg = 59 → (Q (some (vL (jorL x y))) M)) ∧ (sg = 60 → (Q (some (vL (if (0 : Int) ≤ (jcmp x y) then (0 : Int) else (1 : Int)))) M)) ∧ (sg = 61 → (Q (some (vL (if (jcmp x y) ≠ (0 : Int) then (0 : Int) else (1 : Int)))) M)) ∧ (sg = 62 → (Q (some (vL (if (jcmp x y) ≤ (0 : Int) then (0 : Int) else (1 : Int)))) M)) ∧ ((sg < 38 ∨ 62 < sg) → (Q (some (vL (jorL x y))) M))) :
  Call (e + 1) mX3_joined [vI sg, vL x, vL y] M Q := by
  show Run (e + 1) mX3_joined 0 [some (vI sg), some (vL x), none, some (vL y), none] [] M Q
  refine r_iload_n dX3_joined_0 rfl ?_
  by_cases c1 : sg < 38 ∨ 62 < sg
  · refine r_tab_out (tgt := 182) dX3_joined_1 c1 rfl ?_
    refine r_lload_n dX3_joined_182 rfl ?_
    refine r_lload_n dX3_joined_183 rfl ?_
    refine r_lor dX3_joined_184 ?_
    exact r_lret dX3_joined_185 rfl (h.2.2.2.2.2.2.2.2.2.2.2.2.2.2.2.2.2.2.2.2.2.2.2.2.2 c1)
  · rcases (show sg = 38 ∨ sg = 39 ∨ sg = 40 ∨ sg = 41 ∨ sg = 42 ∨ sg = 43 ∨ sg = 44 ∨ sg = 45 ∨ sg = 46 ∨ sg = 47 ∨ sg = 48 ∨ sg = 49 ∨ sg = 50 ∨ sg = 51 ∨ sg = 52 ∨ sg = 53 ∨ sg = 54 ∨ sg = 55 ∨ sg = 56 ∨ sg = 57 ∨ sg = 58 ∨ sg = 59 ∨ sg = 60 ∨ sg = 61 ∨ sg = 62 by omega) with c1e | c1e | c1e | c1e | c1e | c1e | c1e | c1e | c1e | c1e | c1e | c1e | c1e | c1e | c1e | c1e | c1e | c1e | c1e | c1e | c1e | c1e | c1e | c1e | c1e
    · refine r_tab_eq (tgt := 178) dX3_joined_1 c1e (by decide) rfl rfl ?_
      refine r_lload_n dX3_joined_178 rfl ?_
      refine r_lload_n dX3_joined_179 rfl ?_
      refine r_land dX3_joined_180 ?_
      exact r_lret dX3_joined_181 rfl (h.1 c1e)
    · refine r_tab_eq (tgt := 182) dX3_joined_1 c1e (by decide) rfl rfl ?_
      refine r_lload_n dX3_joined_182 rfl ?_
      refine r_lload_n dX3_joined_183 rfl ?_
      refine r_lor dX3_joined_184 ?_
      exact r_lret dX3_joined_185 rfl (h.2.1 c1e)
    · refine r_tab_eq (tgt := 182) dX3_joined_1 c1e (by decide) rfl rfl ?_
      refine r_lload_n dX3_joined_182 rfl ?_
      refine r_lload_n dX3_joined_183 rfl ?_
      refine r_lor dX3_joined_184 ?_
      exact r_lret dX3_joined_185 rfl (h.2.2.1 c1e)
    · refine r_tab_eq (tgt := 182) dX3_joined_1 c1e (by decide) rfl rfl ?_
      refine r_lload_n dX3_joined_182 rfl ?_
      refine r_lload_n dX3_joined_183 rfl ?_
      refine r_lor dX3_joined_184 ?_
      exact r_lret dX3_joined_185 rfl (h.2.2.2.1 c1e)
    · refine r_tab_eq (tgt := 124) dX3_joined_1 c1e (by decide) rfl rfl ?_
      refine r_lload_n dX3_joined_124 rfl ?_
      refine r_lload_n dX3_joined_125 rfl ?_
      refine r_lmul dX3_joined_126 ?_
      exact r_lret dX3_joined_127 rfl (h.2.2.2.2.1 c1e)
    · refine r_tab_eq (tgt := 116) dX3_joined_1 c1e (by decide) rfl rfl ?_
      refine r_lload_n dX3_joined_116 rfl ?_
      refine r_lload_n dX3_joined_117 rfl ?_
      refine r_ladd dX3_joined_118 ?_
      exact r_lret dX3_joined_119 rfl (h.2.2.2.2.2.1 c1e)
    · refine r_tab_eq (tgt := 182) dX3_joined_1 c1e (by decide) rfl rfl ?_
      refine r_lload_n dX3_joined_182 rfl ?_
      refine r_lload_n dX3_joined_183 rfl ?_
      refine r_lor dX3_joined_184 ?_
      exact r_lret dX3_joined_185 rfl (h.2.2.2.2.2.2.1 c1e)
    · refine r_tab_eq (tgt := 120) dX3_joined_1 c1e (by decide) rfl rfl ?_
      refine r_lload_n dX3_joined_120 rfl ?_
      refine r_lload_n dX3_joined_121 rfl ?_
      refine r_lsub dX3_joined_122 ?_
      exact r_lret dX3_joined_123 rfl (h.2.2.2.2.2.2.2.1 c1e)
    · refine r_tab_eq (tgt := 182) dX3_joined_1 c1e (by decide) rfl rfl ?_
      refine r_lload_n dX3_joined_182 rfl ?_
      refine r_lload_n dX3_joined_183 rfl ?_
      refine r_lor dX3_joined_184 ?_
      exact r_lret dX3_joined_185 rfl (h.2.2.2.2.2.2.2.2.1 c1e)
    · refine r_tab_eq (tgt := 128) dX3_joined_1 c1e (by decide) rfl rfl ?_
      refine r_lload_n dX3_joined_128 rfl ?_
      refine r_lconst0 dX3_joined_129 ?_
      refine r_lcmp dX3_joined_130 ?_
      refine r_if_ne dX3_joined_131 rfl (fun c2 => ?_) (fun c2 => ?_)
      · refine r_lload_n dX3_joined_138 rfl ?_
        refine r_lload_n dX3_joined_139 rfl ?_
        refine r_ldiv dX3_joined_140 ((h.2.2.2.2.2.2.2.2.2.1 c1e).1 c2).1 ?_
        exact r_lret dX3_joined_141 rfl ((h.2.2.2.2.2.2.2.2.2.1 c1e).1 c2).2
      · refine r_lconst0 dX3_joined_134 ?_
        refine r_goto (tgt := 141) dX3_joined_135 rfl ?_
        exact r_lret dX3_joined_141 rfl ((h.2.2.2.2.2.2.2.2.2.1 c1e).2 c2)
    · refine r_tab_eq (tgt := 182) dX3_joined_1 c1e (by decide) rfl rfl ?_
      refine r_lload_n dX3_joined_182 rfl ?_
      refine r_lload_n dX3_joined_183 rfl ?_
      refine r_lor dX3_joined_184 ?_
      exact r_lret dX3_joined_185 rfl (h.2.2.2.2.2.2.2.2.2.2.1 c1e)
    · refine r_tab_eq (tgt := 182) dX3_joined_1 c1e (by decide) rfl rfl ?_
      refine r_lload_n dX3_joined_182 rfl ?_
      refine r_lload_n dX3_joined_183 rfl ?_
      refine r_lor dX3_joined_184 ?_
      exact r_lret dX3_joined_185 rfl (h.2.2.2.2.2.2.2.2.2.2.2.1 c1e)
    · refine r_tab_eq (tgt := 182) dX3_joined_1 c1e (by decide) rfl rfl ?_
      refine r_lload_n dX3_joined_182 rfl ?_
      refine r_lload_n dX3_joined_183 rfl ?_
      refine r_lor dX3_joined_184 ?_
      exact r_lret dX3_joined_185 rfl (h.2.2.2.2.2.2.2.2.2.2.2.2.1 c1e)
    · refine r_tab_eq (tgt := 182) dX3_joined_1 c1e (by decide) rfl rfl ?_
      refine r_lload_n dX3_joined_182 rfl ?_
      refine r_lload_n dX3_joined_183 rfl ?_
      refine r_lor dX3_joined_184 ?_
      exact r_lret dX3_joined_185 rfl (h.2.2.2.2.2.2.2.2.2.2.2.2.2.1 c1e)
    · refine r_tab_eq (tgt := 182) dX3_joined_1 c1e (by decide) rfl rfl ?_
      refine r_lload_n dX3_joined_182 rfl ?_
      refine r_lload_n dX3_joined_183 rfl ?_
      refine r_lor dX3_joined_184 ?_
      exact r_lret dX3_joined_185 rfl (h.2.2.2.2.2.2.2.2.2.2.2.2.2.2.1 c1e)
    · refine r_tab_eq (tgt := 182) dX3_joined_1 c1e (by decide) rfl rfl ?_
      refine r_lload_n dX3_joined_182 rfl ?_
      refine r_lload_n dX3_joined_183 rfl ?_
      refine r_lor dX3_joined_184 ?_
      exact r_lret dX3_joined_185 rfl (h.2.2.2.2.2.2.2.2.2.2.2.2.2.2.2.1 c1e)
    · refine r_tab_eq (tgt := 182) dX3_joined_1 c1e (by decide) rfl rfl ?_
      refine r_lload_n dX3_joined_182 rfl ?_
      refine r_lload_n dX3_joined_183 rfl ?_
      refine r_lor dX3_joined_184 ?_
      exact r_lret dX3_joined_185 rfl (h.2.2.2.2.2.2.2.2.2.2.2.2.2.2.2.2.1 c1e)
    · refine r_tab_eq (tgt := 182) dX3_joined_1 c1e (by decide) rfl rfl ?_
      refine r_lload_n dX3_joined_182 rfl ?_
      refine r_lload_n dX3_joined_183 rfl ?_
      refine r_lor dX3_joined_184 ?_
      exact r_lret dX3_joined_185 rfl (h.2.2.2.2.2.2.2.2.2.2.2.2.2.2.2.2.2.1 c1e)
    · refine r_tab_eq (tgt := 182) dX3_joined_1 c1e (by decide) rfl rfl ?_
      refine r_lload_n dX3_joined_182 rfl ?_
      refine r_lload_n dX3_joined_183 rfl ?_
      refine r_lor dX3_joined_184 ?_
      exact r_lret dX3_joined_185 rfl (h.2.2.2.2.2.2.2.2.2.2.2.2.2.2.2.2.2.2.1 c1e)
    · refine r_tab_eq (tgt := 182) dX3_joined_1 c1e (by decide) rfl rfl ?_
      refine r_lload_n dX3_joined_182 rfl ?_
      refine r_lload_n dX3_joined_183 rfl ?_
      refine r_lor dX3_joined_184 ?_
      exact r_lret dX3_joined_185 rfl (h.2.2.2.2.2.2.2.2.2.2.2.2.2.2.2.2.2.2.2.1 c1e)
    · refine r_tab_eq (tgt := 182) dX3_joined_1 c1e (by decide) rfl rfl ?_
      refine r_lload_n dX3_joined_182 rfl ?_
      refine r_lload_n dX3_joined_183 rfl ?_
      refine r_lor dX3_joined_184 ?_
      exact r_lret dX3_joined_185 rfl (h.2.2.2.2.2.2.2.2.2.2.2.2.2.2.2.2.2.2.2.2.1 c1e)
    · refine r_tab_eq (tgt := 182) dX3_joined_1 c1e (by decide) rfl rfl ?_
      refine r_lload_n dX3_joined_182 rfl ?_
      refine r_lload_n dX3_joined_183 rfl ?_
      refine r_lor dX3_joined_184 ?_
      exact r_lret dX3_joined_185 rfl (h.2.2.2.2.2.2.2.2.2.2.2.2.2.2.2.2.2.2.2.2.2.1 c1e)
    · refine r_tab_eq (tgt := 154) dX3_joined_1 c1e (by decide) rfl rfl ?_
      refine r_lload_n dX3_joined_154 rfl ?_
      refine r_lload_n dX3_joined_155 rfl ?_
      refine r_lcmp dX3_joined_156 ?_
      have K3 : Run (e + 1) mX3_joined 165 [some (vI sg), some (vL x), none, some (vL y), none] [vL (if (0 : Int) ≤ (jcmp x y) then (0 : Int) else (1 : Int))] M Q := by
        exact r_lret dX3_joined_165 rfl (h.2.2.2.2.2.2.2.2.2.2.2.2.2.2.2.2.2.2.2.2.2.2.1 c1e)
      refine r_if_ge dX3_joined_157 rfl (fun q4 => ?_) (fun q4 => ?_)
      · rw [if_pos q4] at K3
        refine r_lconst0 dX3_joined_164 ?_
        exact K3
      · rw [if_neg q4] at K3
        refine r_lconst1 dX3_joined_160 ?_
        refine r_goto (tgt := 165) dX3_joined_161 rfl ?_
        exact K3
    · refine r_tab_eq (tgt := 142) dX3_joined_1 c1e (by decide) rfl rfl ?_
      refine r_lload_n dX3_joined_142 rfl ?_
      refine r_lload_n dX3_joined_143 rfl ?_
      refine r_lcmp dX3_joined_144 ?_
      have K6 : Run (e + 1) mX3_joined 153 [some (vI sg), some (vL x), none, some (vL y), none] [vL (if (jcmp x y) ≠ (0 : Int) then (0 : Int) else (1 : Int))] M Q := by
        exact r_lret dX3_joined_153 rfl (h.2.2.2.2.2.2.2.2.2.2.2.2.2.2.2.2.2.2.2.2.2.2.2.1 c1e)
      refine r_if_ne dX3_joined_145 rfl (fun q7 => ?_) (fun q7 => ?_)
      · rw [if_pos q7] at K6
        refine r_lconst0 dX3_joined_152 ?_
        exact K6
      · rw [if_neg q7] at K6
        refine r_lconst1 dX3_joined_148 ?_
        refine r_goto (tgt := 153) dX3_joined_149 rfl ?_
        exact K6
    · refine r_tab_eq (tgt := 166) dX3_joined_1 c1e (by decide) rfl rfl ?_
      refine r_lload_n dX3_joined_166 rfl ?_
      refine r_lload_n dX3_joined_167 rfl ?_
      refine r_lcmp dX3_joined_168 ?_
      have K9 : Run (e + 1) mX3_joined 177 [some (vI sg), some (vL x), none, some (vL y), none] [vL (if (jcmp x y) ≤ (0 : Int) then (0 : Int) else (1 : Int))] M Q := by
        exact r_lret dX3_joined_177 rfl (h.2.2.2.2.2.2.2.2.2.2.2.2.2.2.2.2.2.2.2.2.2.2.2.2.1 c1e)
      refine r_if_le dX3_joined_169 rfl (fun q10 => ?_) (fun q10 => ?_)
      · rw [if_pos q10] at K9
        refine r_lconst0 dX3_joined_176 ?_
        exact K9
      · rw [if_neg q10] at K9
        refine r_lconst1 dX3_joined_172 ?_
        refine r_goto (tgt := 177) dX3_joined_173 rfl ?_
        exact K9
theorem vl_clear {e : Nat} {M : jM} {Q : Option jV → jM → Prop} {g : Nat} (hg : LawAt M g) (he : 1 ≤ e) (hS : Shp M)
  (h : Q none (si (si M g 2 (0 : Int)) g 6 (0 : Int))) :
  Call (e + 1) mX3_clear [vR g] M Q := by
  show Run (e + 1) mX3_clear 0 [some (vR g)] [] M Q
  refine r_aload_n dX3_clear_0 rfl ?_
  refine r_iconst dX3_clear_1 (by decide) ?_
  refine r_put0 dX3_clear_2 kF3_30 (la_o hg) (Or.inl rfl) ?_
  refine r_aload_n dX3_clear_5 rfl ?_
  refine r_iconst dX3_clear_6 (by decide) ?_
  refine r_put0 dX3_clear_7 kF3_34 (la_o hg) (Or.inl rfl) ?_
  exact r_vret dX3_clear_10 rfl h
theorem vl_beginClause {e : Nat} {M : jM} {Q : Option jV → jM → Prop} {g : Nat} (hg : LawAt M g) (he : 1 ≤ e) (hS : Shp M)
  (h : Q none (ptv (ptv M 64 (g + 3) (iv M g 6) (iv M g 2)) 64 (g + 4) (iv (ptv M 64 (g + 3) (iv M g 6) (iv M g 2)) g 6) (iv (ptv M 64 (g + 3) (iv M g 6) (iv M g 2)) g 2))) :
  Call (e + 1) mX3_beginClause [vR g] M Q := by
  show Run (e + 1) mX3_beginClause 0 [some (vR g)] [] M Q
  refine r_aload_n dX3_beginClause_0 rfl ?_
  refine r_getS (v := (g + 3)) dX3_beginClause_1 kF3_18 (la_o hg) (la_f3 hg) ?_
  refine r_aload_n dX3_beginClause_4 rfl ?_
  refine r_get0 dX3_beginClause_5 kF3_34 (la_o hg) ?_
  refine r_aload_n dX3_beginClause_8 rfl ?_
  refine r_get0 dX3_beginClause_9 kF3_30 (la_o hg) ?_
  refine r_invS_v dX3_beginClause_12 (by decide) kXn3_37 kM3_37 (by decide) (Nat.le_of_ble_eq_true rfl) rfl rfl (Nat.le_of_ble_eq_true rfl) (Nat.le_of_ble_eq_true rfl) (c_put (by omega) (la_r3 hg) (by have := la_6 hg; omega) ⟨rfl, ?_⟩)
  refine r_aload_n dX3_beginClause_15 rfl ?_
  refine r_getS (v := (g + 4)) dX3_beginClause_16 kF3_21 (la_o hg) (la_f4 hg) ?_
  refine r_aload_n dX3_beginClause_19 rfl ?_
  refine r_get0 dX3_beginClause_20 kF3_34 (la_o hg) ?_
  refine r_aload_n dX3_beginClause_23 rfl ?_
  refine r_get0 dX3_beginClause_24 kF3_30 (la_o hg) ?_
  refine r_invS_v dX3_beginClause_27 (by decide) kXn3_37 kM3_37 (by decide) (Nat.le_of_ble_eq_true rfl) rfl rfl (Nat.le_of_ble_eq_true rfl) (Nat.le_of_ble_eq_true rfl) (c_put (by omega) (la_r4 hg) (by have := la_6 hg; omega) ⟨rfl, ?_⟩)
  exact r_vret dX3_beginClause_30 rfl h
theorem vl_beginSum {e : Nat} {M : jM} {Q : Option jV → jM → Prop} {g : Nat} (hg : LawAt M g) (he : 1 ≤ e) (hS : Shp M)
  (h : Q none (ptv M 64 (g + 4) (iv M g 6) (iv M g 2))) :
  Call (e + 1) mX3_beginSum [vR g] M Q := by
  show Run (e + 1) mX3_beginSum 0 [some (vR g)] [] M Q
  refine r_aload_n dX3_beginSum_0 rfl ?_
  refine r_getS (v := (g + 4)) dX3_beginSum_1 kF3_21 (la_o hg) (la_f4 hg) ?_
  refine r_aload_n dX3_beginSum_4 rfl ?_
  refine r_get0 dX3_beginSum_5 kF3_34 (la_o hg) ?_
  refine r_aload_n dX3_beginSum_8 rfl ?_
  refine r_get0 dX3_beginSum_9 kF3_30 (la_o hg) ?_
  refine r_invS_v dX3_beginSum_12 (by decide) kXn3_37 kM3_37 (by decide) (Nat.le_of_ble_eq_true rfl) rfl rfl (Nat.le_of_ble_eq_true rfl) (Nat.le_of_ble_eq_true rfl) (c_put (by omega) (la_r4 hg) (by have := la_6 hg; omega) ⟨rfl, ?_⟩)
  exact r_vret dX3_beginSum_15 rfl h
theorem vl_endClause {e : Nat} {M : jM} {Q : Option jV → jM → Prop} {g : Nat} (hg : LawAt M g) (he : 1 ≤ e) (hS : Shp M)
  (h : Q none (si (ptv M 64 (g + 5) (iv M g 6) (iv M g 2)) g 6 (w32 ((iv (ptv M 64 (g + 5) (iv M g 6) (iv M g 2)) g 6) + (1 : Int))))) :
  Call (e + 1) mX3_endClause [vR g] M Q := by
  show Run (e + 1) mX3_endClause 0 [some (vR g)] [] M Q
  refine r_aload_n dX3_endClause_0 rfl ?_
  refine r_getS (v := (g + 5)) dX3_endClause_1 kF3_24 (la_o hg) (la_f5 hg) ?_
  refine r_aload_n dX3_endClause_4 rfl ?_
  refine r_get0 dX3_endClause_5 kF3_34 (la_o hg) ?_
  refine r_aload_n dX3_endClause_8 rfl ?_
  refine r_get0 dX3_endClause_9 kF3_30 (la_o hg) ?_
  refine r_invS_v dX3_endClause_12 (by decide) kXn3_37 kM3_37 (by decide) (Nat.le_of_ble_eq_true rfl) rfl rfl (Nat.le_of_ble_eq_true rfl) (Nat.le_of_ble_eq_true rfl) (c_put (by omega) (la_r5 hg) (by have := la_6 hg; omega) ⟨rfl, ?_⟩)
  refine r_aload_n dX3_endClause_15 rfl ?_
  refine r_dupR dX3_endClause_16 ?_
  refine r_get0 dX3_endClause_17 kF3_34 (la_o hg) ?_
  refine r_iconst dX3_endClause_20 (by decide) ?_
  refine r_iadd dX3_endClause_21 ?_
  refine r_put0 dX3_endClause_22 kF3_34 (la_o hg) (Or.inl rfl) ?_
  exact r_vret dX3_endClause_25 rfl h
theorem vl_add {e : Nat} {M : jM} {Q : Option jV → jM → Prop} {g : Nat} {sg : Int} {x : Int} (hg : LawAt M g) (he : 1 ≤ e) (hS : Shp M)
  (h : Q none (si (ptv (ptv M 240 (g + 1) (iv M g 2) sg) 240 (g + 2) (iv (ptv M 240 (g + 1) (iv M g 2) sg) g 2) x) g 2 (w32 ((iv (ptv (ptv M 240 (g + 1) (iv M g 2) sg) 240 (g + 2) (iv (ptv M 240 (g + 1) (iv M g 2) sg) g 2) x) g 2) + (1 : Int))))) :
  Call (e + 1) mX3_add [vR g, vI sg, vI x] M Q := by
  show Run (e + 1) mX3_add 0 [some (vR g), some (vI sg), some (vI x)] [] M Q
  refine r_aload_n dX3_add_0 rfl ?_
  refine r_getS (v := (g + 1)) dX3_add_1 kF3_9 (la_o hg) (la_f0 hg) ?_
  refine r_aload_n dX3_add_4 rfl ?_
  refine r_get0 dX3_add_5 kF3_30 (la_o hg) ?_
  refine r_iload_n dX3_add_8 rfl ?_
  refine r_invS_v dX3_add_9 (by decide) kXn3_37 kM3_37 (by decide) (Nat.le_of_ble_eq_true rfl) rfl rfl (Nat.le_of_ble_eq_true rfl) (Nat.le_of_ble_eq_true rfl) (c_put (by omega) (la_r1 hg) (by have := la_6 hg; omega) ⟨rfl, ?_⟩)
  refine r_aload_n dX3_add_12 rfl ?_
  refine r_getS (v := (g + 2)) dX3_add_13 kF3_15 (la_o hg) (la_f1 hg) ?_
  refine r_aload_n dX3_add_16 rfl ?_
  refine r_get0 dX3_add_17 kF3_30 (la_o hg) ?_
  refine r_iload_n dX3_add_20 rfl ?_
  refine r_invS_v dX3_add_21 (by decide) kXn3_37 kM3_37 (by decide) (Nat.le_of_ble_eq_true rfl) rfl rfl (Nat.le_of_ble_eq_true rfl) (Nat.le_of_ble_eq_true rfl) (c_put (by omega) (la_r2 hg) (by have := la_6 hg; omega) ⟨rfl, ?_⟩)
  refine r_aload_n dX3_add_24 rfl ?_
  refine r_dupR dX3_add_25 ?_
  refine r_get0 dX3_add_26 kF3_30 (la_o hg) ?_
  refine r_iconst dX3_add_29 (by decide) ?_
  refine r_iadd dX3_add_30 ?_
  refine r_put0 dX3_add_31 kF3_30 (la_o hg) (Or.inl rfl) ?_
  exact r_vret dX3_add_34 rfl h
theorem vl_reckon {e : Nat} {M : jM} {Q : Option jV → jM → Prop} {g : Nat} {fr : Int} {to : Int} {lt : Nat} (hg : LawAt M g) (he : 1 ≤ e) (hlt : jro M 20 6 lt) (hS : Shp M)
  (h : Run (e + 1) mX3_reckon 6 [some (vR g), some (vI fr), some (vI to), some (vR lt), some (vI (-1 : Int)), some (vI fr), none, none, none] [] M Q) :
  Call (e + 1) mX3_reckon [vR g, vI fr, vI to, vR lt] M Q := by
  show Run (e + 1) mX3_reckon 0 [some (vR g), some (vI fr), some (vI to), some (vR lt), none, none, none, none, none] [] M Q
  refine r_iconst dX3_reckon_0 (by decide) ?_
  refine r_istore (ls2 := [some (vR g), some (vI fr), some (vI to), some (vR lt), some (vI (-1 : Int)), none, none, none, none]) dX3_reckon_1 (Nat.le_of_ble_eq_true rfl) rfl ?_
  refine r_iload_n dX3_reckon_3 rfl ?_
  refine r_istore (ls2 := [some (vR g), some (vI fr), some (vI to), some (vR lt), some (vI (-1 : Int)), some (vI fr), none, none, none]) dX3_reckon_4 (Nat.le_of_ble_eq_true rfl) rfl ?_
  exact h
theorem vl_reckon_6 {e : Nat} {M : jM} {Q : Option jV → jM → Prop} {g : Nat} {fr : Int} {to : Int} {lt : Nat} {t : Int} {i : Int} {l6 : Option jV} {l7 : Option jV} {l8 : Option jV}  (hg : LawAt M g) (he : 1 ≤ e) (hlt : jro M 20 6 lt) (hS : Shp M)
  (h : ((to ≤ i) → (Q (some (vI (atv M 64 (g + 6) t))) M)) ∧ (¬ (to ≤ i) → ((((atv M 240 (g + 1) i) ≠ (110 : Int)) → ((((atv M 240 (g + 1) i) ≠ (108 : Int)) → ((((atv M 240 (g + 1) i) ≠ (33 : Int)) → (Call e mX3_joined [vI (atv M 240 (g + 1) i), vL (atv M 64 (g + 6) (w32 (t + (-1 : Int)))), vL (atv M 64 (g + 6) (w32 ((w32 (t + (-1 : Int))) + (1 : Int))))] M (fun r8 M6 => ∃ z5 : Int, r8 = some (vL z5) ∧ Shp M6 ∧ LawAt M6 g ∧ (Run (e + 1) mX3_reckon 6 [some (vR g), some (vI fr), some (vI to), some (vR lt), some (vI (w32 (t + (-1 : Int)))), some (vI (w32 (i + (1 : Int)))), some (vI (atv M 240 (g + 1) i)), some (vL z5), none] [] (ptv M6 64 (g + 6) (w32 (t + (-1 : Int))) (fW z5 (-1000000 : Int) (1000000 : Int))) Q)))) ∧ (¬ ((atv M 240 (g + 1) i) ≠ (33 : Int)) → (Run (e + 1) mX3_reckon 6 [some (vR g), some (vI fr), some (vI to), some (vR lt), some (vI t), some (vI (w32 (i + (1 : Int)))), some (vI (atv M 240 (g + 1) i)), l7, l8] [] (ptv M 64 (g + 6) t (if (atv M 64 (g + 6) t) ≠ (0 : Int) then (0 : Int) else (1 : Int))) Q)))) ∧ (¬ ((atv M 240 (g + 1) i) ≠ (108 : Int)) → (Run (e + 1) mX3_reckon 6 [some (vR g), some (vI fr), some (vI to), some (vR lt), some (vI (w32 (t + (1 : Int)))), some (vI (w32 (i + (1 : Int)))), some (vI (atv M 240 (g + 1) i)), l7, l8] [] (ptv M 64 (g + 6) (w32 (t + (1 : Int))) (atv M 6 lt (atv M 240 (g + 2) i))) Q)))) ∧ (¬ ((atv M 240 (g + 1) i) ≠ (110 : Int)) → (Run (e + 1) mX3_reckon 6 [some (vR g), some (vI fr), some (vI to), some (vR lt), some (vI (w32 (t + (1 : Int)))), some (vI (w32 (i + (1 : Int)))), some (vI (atv M 240 (g + 1) i)), l7, l8] [] (ptv M 64 (g + 6) (w32 (t + (1 : Int))) (atv M 240 (g + 2) i)) Q))))) :
  Run (e + 1) mX3_reckon 6 [some (vR g), some (vI fr), some (vI to), some (vR lt), some (vI t), some (vI i), l6, l7, l8] [] M Q := by
  refine r_iload dX3_reckon_6 rfl ?_
  refine r_iload_n dX3_reckon_8 rfl ?_
  refine r_icmp_ge dX3_reckon_9 rfl (fun c1 => ?_) (fun c1 => ?_)
  · refine r_aload_n dX3_reckon_181 rfl ?_
    refine r_getS (v := (g + 6)) dX3_reckon_182 kF3_27 (la_o hg) (la_f7 hg) ?_
    refine r_iload dX3_reckon_185 rfl ?_
    refine r_invS_i dX3_reckon_187 (by decide) kXn3_45 kM3_45 (by decide) (Nat.le_of_ble_eq_true rfl) rfl rfl (Nat.le_of_ble_eq_true rfl) (Nat.le_of_ble_eq_true rfl) (c_at (by omega) (la_r6 hg) ⟨_, rfl, ?_⟩)
    exact r_iret dX3_reckon_190 rfl (h.1 c1)
  · refine r_aload_n dX3_reckon_12 rfl ?_
    refine r_getS (v := (g + 1)) dX3_reckon_13 kF3_9 (la_o hg) (la_f0 hg) ?_
    refine r_iload dX3_reckon_16 rfl ?_
    refine r_invS_i dX3_reckon_18 (by decide) kXn3_45 kM3_45 (by decide) (Nat.le_of_ble_eq_true rfl) rfl rfl (Nat.le_of_ble_eq_true rfl) (Nat.le_of_ble_eq_true rfl) (c_at (by omega) (la_r1 hg) ⟨_, rfl, ?_⟩)
    refine r_istore (ls2 := [some (vR g), some (vI fr), some (vI to), some (vR lt), some (vI t), some (vI i), some (vI (atv M 240 (g + 1) i)), l7, l8]) dX3_reckon_21 (Nat.le_of_ble_eq_true rfl) rfl ?_
    refine r_iload dX3_reckon_23 rfl ?_
    refine r_bipush dX3_reckon_25 (by decide) ?_
    refine r_icmp_ne dX3_reckon_27 rfl (fun c2 => ?_) (fun c2 => ?_)
    · refine r_iload dX3_reckon_54 rfl ?_
      refine r_bipush dX3_reckon_56 (by decide) ?_
      refine r_icmp_ne dX3_reckon_58 rfl (fun c3 => ?_) (fun c3 => ?_)
      · refine r_iload dX3_reckon_89 rfl ?_
        refine r_bipush dX3_reckon_91 (by decide) ?_
        refine r_icmp_ne dX3_reckon_93 rfl (fun c4 => ?_) (fun c4 => ?_)
        · refine r_iinc (ls2 := [some (vR g), some (vI fr), some (vI to), some (vR lt), some (vI (w32 (t + (-1 : Int)))), some (vI i), some (vI (atv M 240 (g + 1) i)), l7, l8]) dX3_reckon_125 rfl rfl ?_
          refine r_iload dX3_reckon_128 rfl ?_
          refine r_aload_n dX3_reckon_130 rfl ?_
          refine r_getS (v := (g + 6)) dX3_reckon_131 kF3_27 (la_o hg) (la_f7 hg) ?_
          refine r_iload dX3_reckon_134 rfl ?_
          refine r_invS_i dX3_reckon_136 (by decide) kXn3_45 kM3_45 (by decide) (Nat.le_of_ble_eq_true rfl) rfl rfl (Nat.le_of_ble_eq_true rfl) (Nat.le_of_ble_eq_true rfl) (c_at (by omega) (la_r6 hg) ⟨_, rfl, ?_⟩)
          refine r_i2l dX3_reckon_139 ?_
          refine r_aload_n dX3_reckon_140 rfl ?_
          refine r_getS (v := (g + 6)) dX3_reckon_141 kF3_27 (la_o hg) (la_f7 hg) ?_
          refine r_iload dX3_reckon_144 rfl ?_
          refine r_iconst dX3_reckon_146 (by decide) ?_
          refine r_iadd dX3_reckon_147 ?_
          refine r_invS_i dX3_reckon_148 (by decide) kXn3_45 kM3_45 (by decide) (Nat.le_of_ble_eq_true rfl) rfl rfl (Nat.le_of_ble_eq_true rfl) (Nat.le_of_ble_eq_true rfl) (c_at (by omega) (la_r6 hg) ⟨_, rfl, ?_⟩)
          refine r_i2l dX3_reckon_151 ?_
          refine r_invS_l dX3_reckon_152 (by decide) kXn3_53 kM3_53 (by decide) (Nat.le_of_ble_eq_true rfl) rfl rfl (Nat.le_of_ble_eq_true rfl) (Nat.le_of_ble_eq_true rfl) (Call.mono ((((h.2 c1).1 c2).1 c3).1 c4) (Nat.le_refl _) ?_)
          rintro _ M6 ⟨z5, rfl, s9, g10, h7⟩
          refine ⟨_, rfl, ?_⟩
          refine r_lstore (ls2 := [some (vR g), some (vI fr), some (vI to), some (vR lt), some (vI (w32 (t + (-1 : Int)))), some (vI i), some (vI (atv M 240 (g + 1) i)), some (vL z5), none]) dX3_reckon_155 (Nat.le_of_ble_eq_true rfl) rfl ?_
          refine r_aload_n dX3_reckon_157 rfl ?_
          refine r_getS (v := (g + 6)) dX3_reckon_158 kF3_27 (la_o g10) (la_f7 g10) ?_
          refine r_iload dX3_reckon_161 rfl ?_
          refine r_lload dX3_reckon_163 rfl ?_
          refine r_ldc dX3_reckon_165 kK3_57 ?_
          refine r_ldc dX3_reckon_167 kK3_58 ?_
          refine r_invS_i dX3_reckon_169 (by decide) kXn3_59 kM3_59 (by decide) (Nat.le_of_ble_eq_true rfl) rfl rfl (Nat.le_of_ble_eq_true rfl) (Nat.le_of_ble_eq_true rfl) (c_within (by omega) (by unfold i32; omega) (by unfold i32; omega) (by omega) ⟨_, rfl, ?_⟩)
          refine r_invS_v dX3_reckon_172 (by decide) kXn3_37 kM3_37 (by decide) (Nat.le_of_ble_eq_true rfl) rfl rfl (Nat.le_of_ble_eq_true rfl) (Nat.le_of_ble_eq_true rfl) (c_put (by omega) (la_r6 g10) (by have := la_6 g10; omega) ⟨rfl, ?_⟩)
          refine r_iinc (ls2 := [some (vR g), some (vI fr), some (vI to), some (vR lt), some (vI (w32 (t + (-1 : Int)))), some (vI (w32 (i + (1 : Int)))), some (vI (atv M 240 (g + 1) i)), some (vL z5), none]) dX3_reckon_175 rfl rfl ?_
          refine r_goto (tgt := 6) dX3_reckon_178 rfl ?_
          exact h7
        · refine r_aload_n dX3_reckon_96 rfl ?_
          refine r_getS (v := (g + 6)) dX3_reckon_97 kF3_27 (la_o hg) (la_f7 hg) ?_
          refine r_iload dX3_reckon_100 rfl ?_
          refine r_aload_n dX3_reckon_102 rfl ?_
          refine r_getS (v := (g + 6)) dX3_reckon_103 kF3_27 (la_o hg) (la_f7 hg) ?_
          refine r_iload dX3_reckon_106 rfl ?_
          refine r_invS_i dX3_reckon_108 (by decide) kXn3_45 kM3_45 (by decide) (Nat.le_of_ble_eq_true rfl) rfl rfl (Nat.le_of_ble_eq_true rfl) (Nat.le_of_ble_eq_true rfl) (c_at (by omega) (la_r6 hg) ⟨_, rfl, ?_⟩)
          have K11 : Run (e + 1) mX3_reckon 119 [some (vR g), some (vI fr), some (vI to), some (vR lt), some (vI t), some (vI i), some (vI (atv M 240 (g + 1) i)), l7, l8] [vI (if (atv M 64 (g + 6) t) ≠ (0 : Int) then (0 : Int) else (1 : Int)), vI t, vR (g + 6)] M Q := by
            refine r_invS_v dX3_reckon_119 (by decide) kXn3_37 kM3_37 (by decide) (Nat.le_of_ble_eq_true rfl) rfl rfl (Nat.le_of_ble_eq_true rfl) (Nat.le_of_ble_eq_true rfl) (c_put (by omega) (la_r6 hg) (by have := la_6 hg; omega) ⟨rfl, ?_⟩)
            refine r_goto (tgt := 175) dX3_reckon_122 rfl ?_
            refine r_iinc (ls2 := [some (vR g), some (vI fr), some (vI to), some (vR lt), some (vI t), some (vI (w32 (i + (1 : Int)))), some (vI (atv M 240 (g + 1) i)), l7, l8]) dX3_reckon_175 rfl rfl ?_
            refine r_goto (tgt := 6) dX3_reckon_178 rfl ?_
            exact ((((h.2 c1).1 c2).1 c3).2 c4)
          refine r_if_ne dX3_reckon_111 rfl (fun q12 => ?_) (fun q12 => ?_)
          · rw [if_pos q12] at K11
            refine r_iconst dX3_reckon_118 (by decide) ?_
            exact K11
          · rw [if_neg q12] at K11
            refine r_iconst dX3_reckon_114 (by decide) ?_
            refine r_goto (tgt := 119) dX3_reckon_115 rfl ?_
            exact K11
      · refine r_iinc (ls2 := [some (vR g), some (vI fr), some (vI to), some (vR lt), some (vI (w32 (t + (1 : Int)))), some (vI i), some (vI (atv M 240 (g + 1) i)), l7, l8]) dX3_reckon_61 rfl rfl ?_
        refine r_aload_n dX3_reckon_64 rfl ?_
        refine r_getS (v := (g + 6)) dX3_reckon_65 kF3_27 (la_o hg) (la_f7 hg) ?_
        refine r_iload dX3_reckon_68 rfl ?_
        refine r_aload_n dX3_reckon_70 rfl ?_
        refine r_aload_n dX3_reckon_71 rfl ?_
        refine r_getS (v := (g + 2)) dX3_reckon_72 kF3_15 (la_o hg) (la_f1 hg) ?_
        refine r_iload dX3_reckon_75 rfl ?_
        refine r_invS_i dX3_reckon_77 (by decide) kXn3_45 kM3_45 (by decide) (Nat.le_of_ble_eq_true rfl) rfl rfl (Nat.le_of_ble_eq_true rfl) (Nat.le_of_ble_eq_true rfl) (c_at (by omega) (la_r2 hg) ⟨_, rfl, ?_⟩)
        refine r_invS_i dX3_reckon_80 (by decide) kXn3_45 kM3_45 (by decide) (Nat.le_of_ble_eq_true rfl) rfl rfl (Nat.le_of_ble_eq_true rfl) (Nat.le_of_ble_eq_true rfl) (c_at (by omega) hlt ⟨_, rfl, ?_⟩)
        refine r_invS_v dX3_reckon_83 (by decide) kXn3_37 kM3_37 (by decide) (Nat.le_of_ble_eq_true rfl) rfl rfl (Nat.le_of_ble_eq_true rfl) (Nat.le_of_ble_eq_true rfl) (c_put (by omega) (la_r6 hg) (by have := la_6 hg; omega) ⟨rfl, ?_⟩)
        refine r_goto (tgt := 175) dX3_reckon_86 rfl ?_
        refine r_iinc (ls2 := [some (vR g), some (vI fr), some (vI to), some (vR lt), some (vI (w32 (t + (1 : Int)))), some (vI (w32 (i + (1 : Int)))), some (vI (atv M 240 (g + 1) i)), l7, l8]) dX3_reckon_175 rfl rfl ?_
        refine r_goto (tgt := 6) dX3_reckon_178 rfl ?_
        exact (((h.2 c1).1 c2).2 c3)
    · refine r_iinc (ls2 := [some (vR g), some (vI fr), some (vI to), some (vR lt), some (vI (w32 (t + (1 : Int)))), some (vI i), some (vI (atv M 240 (g + 1) i)), l7, l8]) dX3_reckon_30 rfl rfl ?_
      refine r_aload_n dX3_reckon_33 rfl ?_
      refine r_getS (v := (g + 6)) dX3_reckon_34 kF3_27 (la_o hg) (la_f7 hg) ?_
      refine r_iload dX3_reckon_37 rfl ?_
      refine r_aload_n dX3_reckon_39 rfl ?_
      refine r_getS (v := (g + 2)) dX3_reckon_40 kF3_15 (la_o hg) (la_f1 hg) ?_
      refine r_iload dX3_reckon_43 rfl ?_
      refine r_invS_i dX3_reckon_45 (by decide) kXn3_45 kM3_45 (by decide) (Nat.le_of_ble_eq_true rfl) rfl rfl (Nat.le_of_ble_eq_true rfl) (Nat.le_of_ble_eq_true rfl) (c_at (by omega) (la_r2 hg) ⟨_, rfl, ?_⟩)
      refine r_invS_v dX3_reckon_48 (by decide) kXn3_37 kM3_37 (by decide) (Nat.le_of_ble_eq_true rfl) rfl rfl (Nat.le_of_ble_eq_true rfl) (Nat.le_of_ble_eq_true rfl) (c_put (by omega) (la_r6 hg) (by have := la_6 hg; omega) ⟨rfl, ?_⟩)
      refine r_goto (tgt := 175) dX3_reckon_51 rfl ?_
      refine r_iinc (ls2 := [some (vR g), some (vI fr), some (vI to), some (vR lt), some (vI (w32 (t + (1 : Int)))), some (vI (w32 (i + (1 : Int)))), some (vI (atv M 240 (g + 1) i)), l7, l8]) dX3_reckon_175 rfl rfl ?_
      refine r_goto (tgt := 6) dX3_reckon_178 rfl ?_
      exact ((h.2 c1).2 c2)
theorem vl_worth {e : Nat} {M : jM} {Q : Option jV → jM → Prop} {g : Nat} {lt : Nat} (hg : LawAt M g) (he : 1 ≤ e) (hlt : jro M 20 6 lt) (hS : Shp M)
  (h : Run (e + 1) mX3_worth 2 [some (vR g), some (vR lt), some (vI (0 : Int)), none, none] [] M Q) :
  Call (e + 1) mX3_worth [vR g, vR lt] M Q := by
  show Run (e + 1) mX3_worth 0 [some (vR g), some (vR lt), none, none, none] [] M Q
  refine r_iconst dX3_worth_0 (by decide) ?_
  refine r_istore_n (ls2 := [some (vR g), some (vR lt), some (vI (0 : Int)), none, none]) dX3_worth_1 (Nat.le_of_ble_eq_true rfl) rfl ?_
  exact h
theorem vl_worth_2 {e : Nat} {M : jM} {Q : Option jV → jM → Prop} {g : Nat} {lt : Nat} {i : Int} {l3 : Option jV} {l4 : Option jV}  (hg : LawAt M g) (he : 1 ≤ e) (hlt : jro M 20 6 lt) (hS : Shp M)
  (h : (((iv M g 6) ≤ i) → (Q (some (vI (0 : Int))) M)) ∧ (¬ ((iv M g 6) ≤ i) → ((((atv M 64 (g + 3) i) = (atv M 64 (g + 4) i)) → (Call e mX3_reckon [vR g, vI (atv M 64 (g + 4) i), vI (atv M 64 (g + 5) i), vR lt] M (fun r6 M4 => ∃ z3 : Int, r6 = some (vI z3) ∧ Shp M4 ∧ LawAt M4 g ∧ (Q (some (vI z3)) M4)))) ∧ (¬ ((atv M 64 (g + 3) i) = (atv M 64 (g + 4) i)) → (Call e mX3_reckon [vR g, vI (atv M 64 (g + 3) i), vI (atv M 64 (g + 4) i), vR lt] M (fun r12 M10 => ∃ z9 : Int, r12 = some (vI z9) ∧ Shp M10 ∧ LawAt M10 g ∧ (((z9 = (0 : Int)) → (Run (e + 1) mX3_worth 2 [some (vR g), some (vR lt), some (vI (w32 (i + (1 : Int)))), some (vI (atv M 64 (g + 3) i)), some (vI (atv M 64 (g + 4) i))] [] M10 Q)) ∧ (¬ (z9 = (0 : Int)) → (Call e mX3_reckon [vR g, vI (atv M 64 (g + 4) i), vI (atv M10 64 (g + 5) i), vR lt] M10 (fun r19 M17 => ∃ z16 : Int, r19 = some (vI z16) ∧ Shp M17 ∧ LawAt M17 g ∧ (Q (some (vI z16)) M17))))))))))) :
  Run (e + 1) mX3_worth 2 [some (vR g), some (vR lt), some (vI i), l3, l4] [] M Q := by
  refine r_iload_n dX3_worth_2 rfl ?_
  refine r_aload_n dX3_worth_3 rfl ?_
  refine r_get0 dX3_worth_4 kF3_34 (la_o hg) ?_
  refine r_icmp_ge dX3_worth_7 rfl (fun c1 => ?_) (fun c1 => ?_)
  · refine r_iconst dX3_worth_68 (by decide) ?_
    exact r_iret dX3_worth_69 rfl (h.1 c1)
  · refine r_aload_n dX3_worth_10 rfl ?_
    refine r_getS (v := (g + 3)) dX3_worth_11 kF3_18 (la_o hg) (la_f3 hg) ?_
    refine r_iload_n dX3_worth_14 rfl ?_
    refine r_invS_i dX3_worth_15 (by decide) kXn3_45 kM3_45 (by decide) (Nat.le_of_ble_eq_true rfl) rfl rfl (Nat.le_of_ble_eq_true rfl) (Nat.le_of_ble_eq_true rfl) (c_at (by omega) (la_r3 hg) ⟨_, rfl, ?_⟩)
    refine r_istore_n (ls2 := [some (vR g), some (vR lt), some (vI i), some (vI (atv M 64 (g + 3) i)), l4]) dX3_worth_18 (Nat.le_of_ble_eq_true rfl) rfl ?_
    refine r_aload_n dX3_worth_19 rfl ?_
    refine r_getS (v := (g + 4)) dX3_worth_20 kF3_21 (la_o hg) (la_f4 hg) ?_
    refine r_iload_n dX3_worth_23 rfl ?_
    refine r_invS_i dX3_worth_24 (by decide) kXn3_45 kM3_45 (by decide) (Nat.le_of_ble_eq_true rfl) rfl rfl (Nat.le_of_ble_eq_true rfl) (Nat.le_of_ble_eq_true rfl) (c_at (by omega) (la_r4 hg) ⟨_, rfl, ?_⟩)
    refine r_istore (ls2 := [some (vR g), some (vR lt), some (vI i), some (vI (atv M 64 (g + 3) i)), some (vI (atv M 64 (g + 4) i))]) dX3_worth_27 (Nat.le_of_ble_eq_true rfl) rfl ?_
    refine r_iload_n dX3_worth_29 rfl ?_
    refine r_iload dX3_worth_30 rfl ?_
    refine r_icmp_eq dX3_worth_32 rfl (fun c2 => ?_) (fun c2 => ?_)
    · refine r_aload_n dX3_worth_46 rfl ?_
      refine r_iload dX3_worth_47 rfl ?_
      refine r_aload_n dX3_worth_49 rfl ?_
      refine r_getS (v := (g + 5)) dX3_worth_50 kF3_24 (la_o hg) (la_f5 hg) ?_
      refine r_iload_n dX3_worth_53 rfl ?_
      refine r_invS_i dX3_worth_54 (by decide) kXn3_45 kM3_45 (by decide) (Nat.le_of_ble_eq_true rfl) rfl rfl (Nat.le_of_ble_eq_true rfl) (Nat.le_of_ble_eq_true rfl) (c_at (by omega) (la_r5 hg) ⟨_, rfl, ?_⟩)
      refine r_aload_n dX3_worth_57 rfl ?_
      refine r_invV_i dX3_worth_58 kM3_49 (by decide) (Nat.le_of_ble_eq_true rfl) rfl rfl (Nat.le_of_ble_eq_true rfl) (Nat.le_of_ble_eq_true rfl) (la_o hg) (Call.mono ((h.2 c1).1 c2) (Nat.le_refl _) ?_)
      rintro _ M4 ⟨z3, rfl, s7, g8, h5⟩
      refine ⟨_, rfl, ?_⟩
      exact r_iret dX3_worth_61 rfl h5
    · refine r_aload_n dX3_worth_35 rfl ?_
      refine r_iload_n dX3_worth_36 rfl ?_
      refine r_iload dX3_worth_37 rfl ?_
      refine r_aload_n dX3_worth_39 rfl ?_
      refine r_invV_i dX3_worth_40 kM3_49 (by decide) (Nat.le_of_ble_eq_true rfl) rfl rfl (Nat.le_of_ble_eq_true rfl) (Nat.le_of_ble_eq_true rfl) (la_o hg) (Call.mono ((h.2 c1).2 c2) (Nat.le_refl _) ?_)
      rintro _ M10 ⟨z9, rfl, s13, g14, h11⟩
      refine ⟨_, rfl, ?_⟩
      refine r_if_eq dX3_worth_43 rfl (fun c15 => ?_) (fun c15 => ?_)
      · refine r_iinc (ls2 := [some (vR g), some (vR lt), some (vI (w32 (i + (1 : Int)))), some (vI (atv M 64 (g + 3) i)), some (vI (atv M 64 (g + 4) i))]) dX3_worth_62 rfl rfl ?_
        refine r_goto (tgt := 2) dX3_worth_65 rfl ?_
        exact (h11.1 c15)
      · refine r_aload_n dX3_worth_46 rfl ?_
        refine r_iload dX3_worth_47 rfl ?_
        refine r_aload_n dX3_worth_49 rfl ?_
        refine r_getS (v := (g + 5)) dX3_worth_50 kF3_24 (la_o g14) (la_f5 g14) ?_
        refine r_iload_n dX3_worth_53 rfl ?_
        refine r_invS_i dX3_worth_54 (by decide) kXn3_45 kM3_45 (by decide) (Nat.le_of_ble_eq_true rfl) rfl rfl (Nat.le_of_ble_eq_true rfl) (Nat.le_of_ble_eq_true rfl) (c_at (by omega) (la_r5 g14) ⟨_, rfl, ?_⟩)
        refine r_aload_n dX3_worth_57 rfl ?_
        refine r_invV_i dX3_worth_58 kM3_49 (by decide) (Nat.le_of_ble_eq_true rfl) rfl rfl (Nat.le_of_ble_eq_true rfl) (Nat.le_of_ble_eq_true rfl) (la_o g14) (Call.mono (h11.2 c15) (Nat.le_refl _) ?_)
        rintro _ M17 ⟨z16, rfl, s20, g21, h18⟩
        refine ⟨_, rfl, ?_⟩
        exact r_iret dX3_worth_61 rfl h18
theorem vl_copy {e : Nat} {M : jM} {Q : Option jV → jM → Prop} {g : Nat} {k : Nat} (hg : LawAt M g) (hk : LawAt M k) (he : 1 ≤ e) (hS : Shp M)
  (h : Q none (si (cpr (cpr (cpr (si (cpr (cpr M (k + 1) (g + 1) 240) (k + 2) (g + 2) 240) g 2 (iv (cpr (cpr M (k + 1) (g + 1) 240) (k + 2) (g + 2) 240) k 2)) (k + 3) (g + 3) 64) (k + 4) (g + 4) 64) (k + 5) (g + 5) 64) g 6 (iv (cpr (cpr (cpr (si (cpr (cpr M (k + 1) (g + 1) 240) (k + 2) (g + 2) 240) g 2 (iv (cpr (cpr M (k + 1) (g + 1) 240) (k + 2) (g + 2) 240) k 2)) (k + 3) (g + 3) 64) (k + 4) (g + 4) 64) (k + 5) (g + 5) 64) k 6))) :
  Call (e + 1) mX3_copy [vR g, vR k] M Q := by
  show Run (e + 1) mX3_copy 0 [some (vR g), some (vR k)] [] M Q
  refine r_aload_n dX3_copy_0 rfl ?_
  refine r_getS (v := (k + 1)) dX3_copy_1 kF3_9 (la_o hk) (la_f0 hk) ?_
  refine r_aload_n dX3_copy_4 rfl ?_
  refine r_getS (v := (g + 1)) dX3_copy_5 kF3_9 (la_o hg) (la_f0 hg) ?_
  refine r_invS_v dX3_copy_8 (by decide) kXn3_41 kM3_41 (by decide) (Nat.le_of_ble_eq_true rfl) rfl rfl (Nat.le_of_ble_eq_true rfl) (Nat.le_of_ble_eq_true rfl) (c_copyRow (by omega) (la_r1 hk) (la_r1 hg) (by have := la_6 hg; omega) (by decide) ⟨rfl, ?_⟩)
  refine r_aload_n dX3_copy_11 rfl ?_
  refine r_getS (v := (k + 2)) dX3_copy_12 kF3_15 (la_o hk) (la_f1 hk) ?_
  refine r_aload_n dX3_copy_15 rfl ?_
  refine r_getS (v := (g + 2)) dX3_copy_16 kF3_15 (la_o hg) (la_f1 hg) ?_
  refine r_invS_v dX3_copy_19 (by decide) kXn3_41 kM3_41 (by decide) (Nat.le_of_ble_eq_true rfl) rfl rfl (Nat.le_of_ble_eq_true rfl) (Nat.le_of_ble_eq_true rfl) (c_copyRow (by omega) (la_r2 hk) (la_r2 hg) (by have := la_6 hg; omega) (by decide) ⟨rfl, ?_⟩)
  refine r_aload_n dX3_copy_22 rfl ?_
  refine r_aload_n dX3_copy_23 rfl ?_
  refine r_get0 dX3_copy_24 kF3_30 (la_o hk) ?_
  refine r_put0 dX3_copy_27 kF3_30 (la_o hg) (Or.inl rfl) ?_
  refine r_aload_n dX3_copy_30 rfl ?_
  refine r_getS (v := (k + 3)) dX3_copy_31 kF3_18 (la_o hk) (la_f3 hk) ?_
  refine r_aload_n dX3_copy_34 rfl ?_
  refine r_getS (v := (g + 3)) dX3_copy_35 kF3_18 (la_o hg) (la_f3 hg) ?_
  refine r_invS_v dX3_copy_38 (by decide) kXn3_41 kM3_41 (by decide) (Nat.le_of_ble_eq_true rfl) rfl rfl (Nat.le_of_ble_eq_true rfl) (Nat.le_of_ble_eq_true rfl) (c_copyRow (by omega) (la_r3 hk) (la_r3 hg) (by have := la_6 hg; omega) (by decide) ⟨rfl, ?_⟩)
  refine r_aload_n dX3_copy_41 rfl ?_
  refine r_getS (v := (k + 4)) dX3_copy_42 kF3_21 (la_o hk) (la_f4 hk) ?_
  refine r_aload_n dX3_copy_45 rfl ?_
  refine r_getS (v := (g + 4)) dX3_copy_46 kF3_21 (la_o hg) (la_f4 hg) ?_
  refine r_invS_v dX3_copy_49 (by decide) kXn3_41 kM3_41 (by decide) (Nat.le_of_ble_eq_true rfl) rfl rfl (Nat.le_of_ble_eq_true rfl) (Nat.le_of_ble_eq_true rfl) (c_copyRow (by omega) (la_r4 hk) (la_r4 hg) (by have := la_6 hg; omega) (by decide) ⟨rfl, ?_⟩)
  refine r_aload_n dX3_copy_52 rfl ?_
  refine r_getS (v := (k + 5)) dX3_copy_53 kF3_24 (la_o hk) (la_f5 hk) ?_
  refine r_aload_n dX3_copy_56 rfl ?_
  refine r_getS (v := (g + 5)) dX3_copy_57 kF3_24 (la_o hg) (la_f5 hg) ?_
  refine r_invS_v dX3_copy_60 (by decide) kXn3_41 kM3_41 (by decide) (Nat.le_of_ble_eq_true rfl) rfl rfl (Nat.le_of_ble_eq_true rfl) (Nat.le_of_ble_eq_true rfl) (c_copyRow (by omega) (la_r5 hk) (la_r5 hg) (by have := la_6 hg; omega) (by decide) ⟨rfl, ?_⟩)
  refine r_aload_n dX3_copy_63 rfl ?_
  refine r_aload_n dX3_copy_64 rfl ?_
  refine r_get0 dX3_copy_65 kF3_34 (la_o hk) ?_
  refine r_put0 dX3_copy_68 kF3_34 (la_o hg) (Or.inl rfl) ?_
  exact r_vret dX3_copy_71 rfl h
theorem vi_settle {e : Nat} {M : jM} {Q : Option jV → jM → Prop}  (he : 1 ≤ e) (hS : Shp M)
  (h : Q none (cpr (cpr (si (si (si M 29 0 (iv M 9 3)) 29 1 (atv (si M 29 0 (iv M 9 3)) 4 11 (1 : Int))) 29 2 (atv (si (si M 29 0 (iv M 9 3)) 29 1 (atv (si M 29 0 (iv M 9 3)) 4 11 (1 : Int))) 4 11 (2 : Int))) 13 30 8) 14 31 8)) :
  Call (e + 1) mX1_settle [vR 29, vR 9] M Q := by
  show Run (e + 1) mX1_settle 0 [some (vR 29), some (vR 9)] [] M Q
  refine r_aload_n dX1_settle_0 rfl ?_
  refine r_aload_n dX1_settle_1 rfl ?_
  refine r_get0 dX1_settle_2 kF1_23 (sh_o hS rfl (by decide)) ?_
  refine r_put0 dX1_settle_5 kF1_29 (sh_o hS rfl (by decide)) (Or.inl rfl) ?_
  refine r_aload_n dX1_settle_8 rfl ?_
  refine r_aload_n dX1_settle_9 rfl ?_
  refine r_getS (v := 11) dX1_settle_10 kF1_30 (sh_o hS rfl (by decide)) (sh_f hS rfl (by decide)) ?_
  refine r_iconst dX1_settle_13 (by decide) ?_
  refine r_invS_i dX1_settle_14 (by decide) kXn1_33 kM1_33 (by decide) (Nat.le_of_ble_eq_true rfl) rfl rfl (Nat.le_of_ble_eq_true rfl) (Nat.le_of_ble_eq_true rfl) (c_at (by omega) (sh_r hS rfl (by decide)) ⟨_, rfl, ?_⟩)
  refine r_put0 dX1_settle_17 kF1_37 (sh_o hS rfl (by decide)) (Or.inl rfl) ?_
  refine r_aload_n dX1_settle_20 rfl ?_
  refine r_aload_n dX1_settle_21 rfl ?_
  refine r_getS (v := 11) dX1_settle_22 kF1_30 (sh_o hS rfl (by decide)) (sh_f hS rfl (by decide)) ?_
  refine r_iconst dX1_settle_25 (by decide) ?_
  refine r_invS_i dX1_settle_26 (by decide) kXn1_33 kM1_33 (by decide) (Nat.le_of_ble_eq_true rfl) rfl rfl (Nat.le_of_ble_eq_true rfl) (Nat.le_of_ble_eq_true rfl) (c_at (by omega) (sh_r hS rfl (by decide)) ⟨_, rfl, ?_⟩)
  refine r_put0 dX1_settle_29 kF1_40 (sh_o hS rfl (by decide)) (Or.inl rfl) ?_
  refine r_aload_n dX1_settle_32 rfl ?_
  refine r_getS (v := 13) dX1_settle_33 kF1_43 (sh_o hS rfl (by decide)) (sh_f hS rfl (by decide)) ?_
  refine r_aload_n dX1_settle_36 rfl ?_
  refine r_getS (v := 30) dX1_settle_37 kF1_9 (sh_o hS rfl (by decide)) (sh_f hS rfl (by decide)) ?_
  refine r_invS_v dX1_settle_40 (by decide) kXn1_44 kM1_44 (by decide) (Nat.le_of_ble_eq_true rfl) rfl rfl (Nat.le_of_ble_eq_true rfl) (Nat.le_of_ble_eq_true rfl) (c_copyRow (by omega) (sh_r hS rfl (by decide)) (sh_r hS rfl (by decide)) (by decide) (by decide) ⟨rfl, ?_⟩)
  refine r_aload_n dX1_settle_43 rfl ?_
  refine r_getS (v := 14) dX1_settle_44 kF1_48 (sh_o hS rfl (by decide)) (sh_f hS rfl (by decide)) ?_
  refine r_aload_n dX1_settle_47 rfl ?_
  refine r_getS (v := 31) dX1_settle_48 kF1_15 (sh_o hS rfl (by decide)) (sh_f hS rfl (by decide)) ?_
  refine r_invS_v dX1_settle_51 (by decide) kXn1_44 kM1_44 (by decide) (Nat.le_of_ble_eq_true rfl) rfl rfl (Nat.le_of_ble_eq_true rfl) (Nat.le_of_ble_eq_true rfl) (c_copyRow (by omega) (sh_r hS rfl (by decide)) (sh_r hS rfl (by decide)) (by decide) (by decide) ⟨rfl, ?_⟩)
  exact r_vret dX1_settle_54 rfl h
theorem vi_has {e : Nat} {M : jM} {Q : Option jV → jM → Prop} {p : Int} (he : 1 ≤ e) (hS : Shp M)
  (h : Q (some (vI (if p < (0 : Int) then (0 : Int) else (if (iv M 29 0) ≤ p then (0 : Int) else (1 : Int))))) M) :
  Call (e + 1) mX1_has [vR 29, vI p] M Q := by
  show Run (e + 1) mX1_has 0 [some (vR 29), some (vI p)] [] M Q
  refine r_iload_n dX1_has_0 rfl ?_
  have K1 : Run (e + 1) mX1_has 17 [some (vR 29), some (vI p)] [vI (if p < (0 : Int) then (0 : Int) else (if (iv M 29 0) ≤ p then (0 : Int) else (1 : Int)))] M Q := by
    exact r_zret dX1_has_17 rfl (by (repeat' split) <;> first | exact Or.inl rfl | exact Or.inr rfl) h
  refine r_if_lt dX1_has_1 rfl (fun q2 => ?_) (fun q2 => ?_)
  · rw [if_pos q2] at K1
    refine r_iconst dX1_has_16 (by decide) ?_
    exact K1
  · rw [if_neg q2] at K1
    refine r_iload_n dX1_has_4 rfl ?_
    refine r_aload_n dX1_has_5 rfl ?_
    refine r_get0 dX1_has_6 kF1_29 (sh_o hS rfl (by decide)) ?_
    refine r_icmp_ge dX1_has_9 rfl (fun q4 => ?_) (fun q4 => ?_)
    · rw [if_pos q4] at K1
      refine r_iconst dX1_has_16 (by decide) ?_
      exact K1
    · rw [if_neg q4] at K1
      refine r_iconst dX1_has_12 (by decide) ?_
      refine r_goto (tgt := 17) dX1_has_13 rfl ?_
      exact K1
theorem vi_takes {e : Nat} {M : jM} {Q : Option jV → jM → Prop} {p : Int} {k : Int} (he : 1 ≤ e) (hS : Shp M)
  (h : ((fG (atv M 8 31 p) k) = 0 ∨ (fG (atv M 8 31 p) k) = 1) ∧ Q (some (vI (fG (atv M 8 31 p) k))) M) :
  Call (e + 1) mX1_takes [vR 29, vI p, vI k] M Q := by
  show Run (e + 1) mX1_takes 0 [some (vR 29), some (vI p), some (vI k)] [] M Q
  refine r_aload_n dX1_takes_0 rfl ?_
  refine r_getS (v := 31) dX1_takes_1 kF1_15 (sh_o hS rfl (by decide)) (sh_f hS rfl (by decide)) ?_
  refine r_iload_n dX1_takes_4 rfl ?_
  refine r_invS_i dX1_takes_5 (by decide) kXn1_33 kM1_33 (by decide) (Nat.le_of_ble_eq_true rfl) rfl rfl (Nat.le_of_ble_eq_true rfl) (Nat.le_of_ble_eq_true rfl) (c_at (by omega) (sh_r hS rfl (by decide)) ⟨_, rfl, ?_⟩)
  refine r_iload_n dX1_takes_8 rfl ?_
  refine r_invS_i dX1_takes_9 (by decide) kXn1_49 kM1_49 (by decide) (Nat.le_of_ble_eq_true rfl) rfl rfl (Nat.le_of_ble_eq_true rfl) (Nat.le_of_ble_eq_true rfl) (c_goesInto (by omega) ⟨_, rfl, ?_⟩)
  exact r_zret dX1_takes_12 rfl h.1 h.2
theorem vi_lookUp {e : Nat} {M : jM} {Q : Option jV → jM → Prop} {ag : Int} {w : Int} {ho : Int} (he : 1 ≤ e) (hS : Shp M)
  (h : Q none (ptv (ptv (ptv M 6 32 (2 : Int) ag) 6 32 (4 : Int) w) 6 32 (5 : Int) (jrem ho (24 : Int)))) :
  Call (e + 1) mX1_lookUp [vR 29, vI ag, vI w, vI ho] M Q := by
  show Run (e + 1) mX1_lookUp 0 [some (vR 29), some (vI ag), some (vI w), some (vI ho)] [] M Q
  refine r_aload_n dX1_lookUp_0 rfl ?_
  refine r_getS (v := 32) dX1_lookUp_1 kF1_20 (sh_o hS rfl (by decide)) (sh_f hS rfl (by decide)) ?_
  refine r_iconst dX1_lookUp_4 (by decide) ?_
  refine r_iload_n dX1_lookUp_5 rfl ?_
  refine r_invS_v dX1_lookUp_6 (by decide) kXn1_84 kM1_84 (by decide) (Nat.le_of_ble_eq_true rfl) rfl rfl (Nat.le_of_ble_eq_true rfl) (Nat.le_of_ble_eq_true rfl) (c_put (by omega) (sh_r hS rfl (by decide)) (by decide) ⟨rfl, ?_⟩)
  refine r_aload_n dX1_lookUp_9 rfl ?_
  refine r_getS (v := 32) dX1_lookUp_10 kF1_20 (sh_o hS rfl (by decide)) (sh_f hS rfl (by decide)) ?_
  refine r_iconst dX1_lookUp_13 (by decide) ?_
  refine r_iload_n dX1_lookUp_14 rfl ?_
  refine r_invS_v dX1_lookUp_15 (by decide) kXn1_84 kM1_84 (by decide) (Nat.le_of_ble_eq_true rfl) rfl rfl (Nat.le_of_ble_eq_true rfl) (Nat.le_of_ble_eq_true rfl) (c_put (by omega) (sh_r hS rfl (by decide)) (by decide) ⟨rfl, ?_⟩)
  refine r_aload_n dX1_lookUp_18 rfl ?_
  refine r_getS (v := 32) dX1_lookUp_19 kF1_20 (sh_o hS rfl (by decide)) (sh_f hS rfl (by decide)) ?_
  refine r_iconst dX1_lookUp_22 (by decide) ?_
  refine r_iload_n dX1_lookUp_23 rfl ?_
  refine r_bipush dX1_lookUp_24 (by decide) ?_
  refine r_irem dX1_lookUp_26 (by decide) ?_
  refine r_invS_v dX1_lookUp_27 (by decide) kXn1_84 kM1_84 (by decide) (Nat.le_of_ble_eq_true rfl) rfl rfl (Nat.le_of_ble_eq_true rfl) (Nat.le_of_ble_eq_true rfl) (c_put (by omega) (sh_r hS rfl (by decide)) (by decide) ⟨rfl, ?_⟩)
  exact r_vret dX1_lookUp_30 rfl h
theorem vi_lookUp1 {d : Nat} {M : jM} {Q : Option jV → jM → Prop} {ag w ho : Int} (hd : 2 ≤ d) (hS : Shp M) (h : Q none (ptv (ptv (ptv M 6 32 (2 : Int) ag) 6 32 (4 : Int) w) 6 32 (5 : Int) (jrem ho (24 : Int)))) : Call d mX1_lookUp [vR 29, vI ag, vI w, vI ho] M Q := by
  obtain ⟨e, rfl⟩ := dd (d := d) (by omega)
  exact vi_lookUp (by omega) hS h
theorem vi_massOf {e : Nat} {M : jM} {Q : Option jV → jM → Prop} {q : Int} {k : Int} {t : Int} (he : 1 ≤ e) (hS : Shp M)
  (h : Run (e + 1) mX1_massOf 16 [some (vR 29), some (vI q), some (vI k), some (vI t), some (vI (atv M 8 30 q)), none, some (vR (rv M 29 5)), none] [] M Q) :
  Call (e + 1) mX1_massOf [vR 29, vI q, vI k, vI t] M Q := by
  show Run (e + 1) mX1_massOf 0 [some (vR 29), some (vI q), some (vI k), some (vI t), none, none, none, none] [] M Q
  refine r_aload_n dX1_massOf_0 rfl ?_
  refine r_getS (v := 30) dX1_massOf_1 kF1_9 (sh_o hS rfl (by decide)) (sh_f hS rfl (by decide)) ?_
  refine r_iload_n dX1_massOf_4 rfl ?_
  refine r_invS_i dX1_massOf_5 (by decide) kXn1_33 kM1_33 (by decide) (Nat.le_of_ble_eq_true rfl) rfl rfl (Nat.le_of_ble_eq_true rfl) (Nat.le_of_ble_eq_true rfl) (c_at (by omega) (sh_r hS rfl (by decide)) ⟨_, rfl, ?_⟩)
  refine r_istore (ls2 := [some (vR 29), some (vI q), some (vI k), some (vI t), some (vI (atv M 8 30 q)), none, none, none]) dX1_massOf_8 (Nat.le_of_ble_eq_true rfl) rfl ?_
  refine r_aload_n dX1_massOf_10 rfl ?_
  refine r_get2 dX1_massOf_11 kF1_88 (sh_o hS rfl (by decide)) ?_
  refine r_astore (ls2 := [some (vR 29), some (vI q), some (vI k), some (vI t), some (vI (atv M 8 30 q)), none, some (vR (rv M 29 5)), none]) dX1_massOf_14 (Nat.le_of_ble_eq_true rfl) rfl ?_
  exact h
theorem vi_massOf_n {e : Nat} {M : jM} {Q : Option jV → jM → Prop} {q : Int} {k : Int} {t : Int} {dp : Int} {l5 : Option jV} {l7 : Option jV}  (he : 1 ≤ e) (hS : Shp M)
  (h : (((w32 ((atv M 6 32 (2 : Int)) + (1 : Int))) ≠ (0 : Int)) → ((w32 ((atv M 6 32 (2 : Int)) + (1 : Int))) ≠ 0 ∧ ((0 ≤ (w64 ((fW (jdiv (w32 ((100000 : Int) * t)) (w32 ((atv M 6 32 (2 : Int)) + (1 : Int)))) (0 : Int) (1000000 : Int)) * dp)) ∧ (w64 ((fW (jdiv (w32 ((100000 : Int) * t)) (w32 ((atv M 6 32 (2 : Int)) + (1 : Int)))) (0 : Int) (1000000 : Int)) * dp)) < 4611686018427387904) ∧ (Q (some (vI (w32 (rnd (w64 ((fW (jdiv (w32 ((100000 : Int) * t)) (w32 ((atv M 6 32 (2 : Int)) + (1 : Int)))) (0 : Int) (1000000 : Int)) * dp)))))) M)))) ∧ (¬ ((w32 ((atv M 6 32 (2 : Int)) + (1 : Int))) ≠ (0 : Int)) → ((0 ≤ (w64 ((fW (0 : Int) (0 : Int) (1000000 : Int)) * dp)) ∧ (w64 ((fW (0 : Int) (0 : Int) (1000000 : Int)) * dp)) < 4611686018427387904) ∧ (Q (some (vI (w32 (rnd (w64 ((fW (0 : Int) (0 : Int) (1000000 : Int)) * dp)))))) M)))) :
  Run (e + 1) mX1_massOf 16 [some (vR 29), some (vI q), some (vI k), some (vI t), some (vI dp), l5, some (vR 0), l7] [] M Q := by
  refine r_aload dX1_massOf_16 rfl ?_
  refine r_ifnonnull dX1_massOf_18 rfl (fun q => absurd q (by decide)) (fun _ => ?_)
  refine r_aload_n dX1_massOf_21 rfl ?_
  refine r_getS (v := 32) dX1_massOf_22 kF1_20 (sh_o hS rfl (by decide)) (sh_f hS rfl (by decide)) ?_
  refine r_iconst dX1_massOf_25 (by decide) ?_
  refine r_invS_i dX1_massOf_26 (by decide) kXn1_33 kM1_33 (by decide) (Nat.le_of_ble_eq_true rfl) rfl rfl (Nat.le_of_ble_eq_true rfl) (Nat.le_of_ble_eq_true rfl) (c_at (by omega) (sh_r hS rfl (by decide)) ⟨_, rfl, ?_⟩)
  refine r_iconst dX1_massOf_29 (by decide) ?_
  refine r_iadd dX1_massOf_30 ?_
  refine r_istore (ls2 := [some (vR 29), some (vI q), some (vI k), some (vI t), some (vI dp), l5, some (vR 0), some (vI (w32 ((atv M 6 32 (2 : Int)) + (1 : Int))))]) dX1_massOf_31 (Nat.le_of_ble_eq_true rfl) rfl ?_
  refine r_iload dX1_massOf_33 rfl ?_
  refine r_if_ne dX1_massOf_35 rfl (fun c1 => ?_) (fun c1 => ?_)
  · refine r_ldc dX1_massOf_42 kK1_92 ?_
    refine r_iload_n dX1_massOf_44 rfl ?_
    refine r_imul dX1_massOf_45 ?_
    refine r_iload dX1_massOf_46 rfl ?_
    refine r_idiv dX1_massOf_48 (h.1 c1).1 ?_
    refine r_istore (ls2 := [some (vR 29), some (vI q), some (vI k), some (vI t), some (vI dp), some (vI (jdiv (w32 ((100000 : Int) * t)) (w32 ((atv M 6 32 (2 : Int)) + (1 : Int))))), some (vR 0), some (vI (w32 ((atv M 6 32 (2 : Int)) + (1 : Int))))]) dX1_massOf_49 (Nat.le_of_ble_eq_true rfl) rfl ?_
    refine r_goto (tgt := 93) dX1_massOf_51 rfl ?_
    refine r_iload dX1_massOf_93 rfl ?_
    refine r_i2l dX1_massOf_95 ?_
    refine r_iconst dX1_massOf_96 (by decide) ?_
    refine r_ldc dX1_massOf_97 kK1_97 ?_
    refine r_invS_i dX1_massOf_99 (by decide) kXn1_98 kM1_98 (by decide) (Nat.le_of_ble_eq_true rfl) rfl rfl (Nat.le_of_ble_eq_true rfl) (Nat.le_of_ble_eq_true rfl) (c_within (by omega) (by unfold i32; omega) (by unfold i32; omega) (by omega) ⟨_, rfl, ?_⟩)
    refine r_i2l dX1_massOf_102 ?_
    refine r_iload dX1_massOf_103 rfl ?_
    refine r_i2l dX1_massOf_105 ?_
    refine r_lmul dX1_massOf_106 ?_
    refine r_invS_l dX1_massOf_107 (by decide) kXn1_102 kM1_102 (by decide) (Nat.le_of_ble_eq_true rfl) rfl rfl (Nat.le_of_ble_eq_true rfl) (Nat.le_of_ble_eq_true rfl) (c_rounded (by omega) (h.1 c1).2.1 ⟨_, rfl, ?_⟩)
    refine r_l2i dX1_massOf_110 ?_
    exact r_iret dX1_massOf_111 rfl (h.1 c1).2.2
  · refine r_iconst dX1_massOf_38 (by decide) ?_
    refine r_goto (tgt := 49) dX1_massOf_39 rfl ?_
    refine r_istore (ls2 := [some (vR 29), some (vI q), some (vI k), some (vI t), some (vI dp), some (vI (0 : Int)), some (vR 0), some (vI (w32 ((atv M 6 32 (2 : Int)) + (1 : Int))))]) dX1_massOf_49 (Nat.le_of_ble_eq_true rfl) rfl ?_
    refine r_goto (tgt := 93) dX1_massOf_51 rfl ?_
    refine r_iload dX1_massOf_93 rfl ?_
    refine r_i2l dX1_massOf_95 ?_
    refine r_iconst dX1_massOf_96 (by decide) ?_
    refine r_ldc dX1_massOf_97 kK1_97 ?_
    refine r_invS_i dX1_massOf_99 (by decide) kXn1_98 kM1_98 (by decide) (Nat.le_of_ble_eq_true rfl) rfl rfl (Nat.le_of_ble_eq_true rfl) (Nat.le_of_ble_eq_true rfl) (c_within (by omega) (by unfold i32; omega) (by unfold i32; omega) (by omega) ⟨_, rfl, ?_⟩)
    refine r_i2l dX1_massOf_102 ?_
    refine r_iload dX1_massOf_103 rfl ?_
    refine r_i2l dX1_massOf_105 ?_
    refine r_lmul dX1_massOf_106 ?_
    refine r_invS_l dX1_massOf_107 (by decide) kXn1_102 kM1_102 (by decide) (Nat.le_of_ble_eq_true rfl) rfl rfl (Nat.le_of_ble_eq_true rfl) (Nat.le_of_ble_eq_true rfl) (c_rounded (by omega) (h.2 c1).1 ⟨_, rfl, ?_⟩)
    refine r_l2i dX1_massOf_110 ?_
    exact r_iret dX1_massOf_111 rfl (h.2 c1).2
theorem vi_massOf_l {e : Nat} {M : jM} {Q : Option jV → jM → Prop} {q : Int} {k : Int} {t : Int} {dp : Int} {l5 : Option jV} {g : Nat} {l7 : Option jV}  (he : 4 ≤ e) (hg : LawAt M g) (hS : Shp M)
  (h : Call e mX3_worth [vR g, vR 32] (ptv (ptv (ptv M 6 32 (0 : Int) t) 6 32 (1 : Int) k) 6 32 (3 : Int) dp) (fun r4 M2 => ∃ z1 : Int, r4 = some (vI z1) ∧ Shp M2 ∧ LawAt M2 g ∧ ((0 ≤ (w64 ((fW z1 (0 : Int) (1000000 : Int)) * dp)) ∧ (w64 ((fW z1 (0 : Int) (1000000 : Int)) * dp)) < 4611686018427387904) ∧ (Q (some (vI (w32 (rnd (w64 ((fW z1 (0 : Int) (1000000 : Int)) * dp)))))) M2)))) :
  Run (e + 1) mX1_massOf 16 [some (vR 29), some (vI q), some (vI k), some (vI t), some (vI dp), l5, some (vR g), l7] [] M Q := by
  refine r_aload dX1_massOf_16 rfl ?_
  refine r_ifnonnull dX1_massOf_18 rfl (fun _ => ?_) (fun q => absurd (by have := la_6 hg; omega) q)
  refine r_aload_n dX1_massOf_54 rfl ?_
  refine r_getS (v := 32) dX1_massOf_55 kF1_20 (sh_o hS rfl (by decide)) (sh_f hS rfl (by decide)) ?_
  refine r_iconst dX1_massOf_58 (by decide) ?_
  refine r_iload_n dX1_massOf_59 rfl ?_
  refine r_invS_v dX1_massOf_60 (by decide) kXn1_84 kM1_84 (by decide) (Nat.le_of_ble_eq_true rfl) rfl rfl (Nat.le_of_ble_eq_true rfl) (Nat.le_of_ble_eq_true rfl) (c_put (by omega) (sh_r hS rfl (by decide)) (by decide) ⟨rfl, ?_⟩)
  refine r_aload_n dX1_massOf_63 rfl ?_
  refine r_getS (v := 32) dX1_massOf_64 kF1_20 (sh_o hS rfl (by decide)) (sh_f hS rfl (by decide)) ?_
  refine r_iconst dX1_massOf_67 (by decide) ?_
  refine r_iload_n dX1_massOf_68 rfl ?_
  refine r_invS_v dX1_massOf_69 (by decide) kXn1_84 kM1_84 (by decide) (Nat.le_of_ble_eq_true rfl) rfl rfl (Nat.le_of_ble_eq_true rfl) (Nat.le_of_ble_eq_true rfl) (c_put (by omega) (sh_r hS rfl (by decide)) (by decide) ⟨rfl, ?_⟩)
  refine r_aload_n dX1_massOf_72 rfl ?_
  refine r_getS (v := 32) dX1_massOf_73 kF1_20 (sh_o hS rfl (by decide)) (sh_f hS rfl (by decide)) ?_
  refine r_iconst dX1_massOf_76 (by decide) ?_
  refine r_iload dX1_massOf_77 rfl ?_
  refine r_invS_v dX1_massOf_79 (by decide) kXn1_84 kM1_84 (by decide) (Nat.le_of_ble_eq_true rfl) rfl rfl (Nat.le_of_ble_eq_true rfl) (Nat.le_of_ble_eq_true rfl) (c_put (by omega) (sh_r hS rfl (by decide)) (by decide) ⟨rfl, ?_⟩)
  refine r_aload dX1_massOf_82 rfl ?_
  refine r_aload_n dX1_massOf_84 rfl ?_
  refine r_getS (v := 32) dX1_massOf_85 kF1_20 (sh_o hS rfl (by decide)) (sh_f hS rfl (by decide)) ?_
  refine r_invV_i dX1_massOf_88 kM1_93 (by decide) (Nat.le_of_ble_eq_true rfl) rfl rfl (Nat.le_of_ble_eq_true rfl) (Nat.le_of_ble_eq_true rfl) (la_o hg) (Call.mono h (Nat.le_refl _) ?_)
  rintro _ M2 ⟨z1, rfl, s5, g6, h3⟩
  refine ⟨_, rfl, ?_⟩
  refine r_istore (ls2 := [some (vR 29), some (vI q), some (vI k), some (vI t), some (vI dp), some (vI z1), some (vR g), l7]) dX1_massOf_91 (Nat.le_of_ble_eq_true rfl) rfl ?_
  refine r_iload dX1_massOf_93 rfl ?_
  refine r_i2l dX1_massOf_95 ?_
  refine r_iconst dX1_massOf_96 (by decide) ?_
  refine r_ldc dX1_massOf_97 kK1_97 ?_
  refine r_invS_i dX1_massOf_99 (by decide) kXn1_98 kM1_98 (by decide) (Nat.le_of_ble_eq_true rfl) rfl rfl (Nat.le_of_ble_eq_true rfl) (Nat.le_of_ble_eq_true rfl) (c_within (by omega) (by unfold i32; omega) (by unfold i32; omega) (by omega) ⟨_, rfl, ?_⟩)
  refine r_i2l dX1_massOf_102 ?_
  refine r_iload dX1_massOf_103 rfl ?_
  refine r_i2l dX1_massOf_105 ?_
  refine r_lmul dX1_massOf_106 ?_
  refine r_invS_l dX1_massOf_107 (by decide) kXn1_102 kM1_102 (by decide) (Nat.le_of_ble_eq_true rfl) rfl rfl (Nat.le_of_ble_eq_true rfl) (Nat.le_of_ble_eq_true rfl) (c_rounded (by omega) h3.1 ⟨_, rfl, ?_⟩)
  refine r_l2i dX1_massOf_110 ?_
  exact r_iret dX1_massOf_111 rfl h3.2
theorem vi_weigh {e : Nat} {M : jM} {Q : Option jV → jM → Prop} {a : Nat} (he : 2 ≤ e) (ha : isSt a = true) (hS : Shp M)
  (h : Run (e + 1) mX1_weigh 2 [some (vR 29), some (vR a), some (vI (0 : Int)), none] [] M Q) :
  Call (e + 1) mX1_weigh [vR 29, vR a] M Q := by
  show Run (e + 1) mX1_weigh 0 [some (vR 29), some (vR a), none, none] [] M Q
  refine r_iconst dX1_weigh_0 (by decide) ?_
  refine r_istore_n (ls2 := [some (vR 29), some (vR a), some (vI (0 : Int)), none]) dX1_weigh_1 (Nat.le_of_ble_eq_true rfl) rfl ?_
  exact h
theorem vi_weigh_2 {e : Nat} {M : jM} {Q : Option jV → jM → Prop} {a : Nat} {i : Int} {l3 : Option jV}  (he : 2 ≤ e) (ha : isSt a = true) (hS : Shp M)
  (h : (((32 : Int) ≤ i) → (Q none M)) ∧ (¬ ((32 : Int) ≤ i) → ((((atv M 32 (a + 1) i) = (-1 : Int)) → (Run (e + 1) mX1_weigh 2 [some (vR 29), some (vR a), some (vI (w32 (i + (1 : Int)))), some (vI (0 : Int))] [] (ptv M 32 (a + 5) i (0 : Int)) Q)) ∧ (¬ ((atv M 32 (a + 1) i) = (-1 : Int)) → (Call e mX1_massOf [vR 29, vI (jdiv i (4 : Int)), vI (atv (ptv (ptv (ptv M 6 32 (2 : Int) (atv M 32 (a + 4) i)) 6 32 (4 : Int) (iv M a 7)) 6 32 (5 : Int) (jrem (iv M a 9) (24 : Int))) 32 (a + 2) i), vI (atv (ptv (ptv (ptv M 6 32 (2 : Int) (atv M 32 (a + 4) i)) 6 32 (4 : Int) (iv M a 7)) 6 32 (5 : Int) (jrem (iv M a 9) (24 : Int))) 32 (a + 3) i)] (ptv (ptv (ptv M 6 32 (2 : Int) (atv M 32 (a + 4) i)) 6 32 (4 : Int) (iv M a 7)) 6 32 (5 : Int) (jrem (iv M a 9) (24 : Int))) (fun r6 M4 => ∃ z3 : Int, r6 = some (vI z3) ∧ Shp M4 ∧ (Run (e + 1) mX1_weigh 2 [some (vR 29), some (vR a), some (vI (w32 (i + (1 : Int)))), some (vI z3)] [] (ptv M4 32 (a + 5) i z3) Q))))))) :
  Run (e + 1) mX1_weigh 2 [some (vR 29), some (vR a), some (vI i), l3] [] M Q := by
  refine r_iload_n dX1_weigh_2 rfl ?_
  refine r_bipush dX1_weigh_3 (by decide) ?_
  refine r_icmp_ge dX1_weigh_5 rfl (fun c1 => ?_) (fun c1 => ?_)
  · exact r_vret dX1_weigh_81 rfl (h.1 c1)
  · refine r_iconst dX1_weigh_8 (by decide) ?_
    refine r_istore_n (ls2 := [some (vR 29), some (vR a), some (vI i), some (vI (0 : Int))]) dX1_weigh_9 (Nat.le_of_ble_eq_true rfl) rfl ?_
    refine r_aload_n dX1_weigh_10 rfl ?_
    refine r_getS (v := (a + 1)) dX1_weigh_11 kF1_53 (st_o hS ha) (st_f0 hS ha) ?_
    refine r_iload_n dX1_weigh_14 rfl ?_
    refine r_invS_i dX1_weigh_15 (by decide) kXn1_33 kM1_33 (by decide) (Nat.le_of_ble_eq_true rfl) rfl rfl (Nat.le_of_ble_eq_true rfl) (Nat.le_of_ble_eq_true rfl) (c_at (by omega) (st_r1 hS ha) ⟨_, rfl, ?_⟩)
    refine r_iconst dX1_weigh_18 (by decide) ?_
    refine r_icmp_eq dX1_weigh_19 rfl (fun c2 => ?_) (fun c2 => ?_)
    · refine r_aload_n dX1_weigh_66 rfl ?_
      refine r_getS (v := (a + 5)) dX1_weigh_67 kF1_81 (st_o hS ha) (st_f4 hS ha) ?_
      refine r_iload_n dX1_weigh_70 rfl ?_
      refine r_iload_n dX1_weigh_71 rfl ?_
      refine r_invS_v dX1_weigh_72 (by decide) kXn1_84 kM1_84 (by decide) (Nat.le_of_ble_eq_true rfl) rfl rfl (Nat.le_of_ble_eq_true rfl) (Nat.le_of_ble_eq_true rfl) (c_put (by omega) (st_r5 hS ha) (by have := st_6 ha; omega) ⟨rfl, ?_⟩)
      refine r_iinc (ls2 := [some (vR 29), some (vR a), some (vI (w32 (i + (1 : Int)))), some (vI (0 : Int))]) dX1_weigh_75 rfl rfl ?_
      refine r_goto (tgt := 2) dX1_weigh_78 rfl ?_
      exact ((h.2 c1).1 c2)
    · refine r_aload_n dX1_weigh_22 rfl ?_
      refine r_aload_n dX1_weigh_23 rfl ?_
      refine r_getS (v := (a + 4)) dX1_weigh_24 kF1_58 (st_o hS ha) (st_f3 hS ha) ?_
      refine r_iload_n dX1_weigh_27 rfl ?_
      refine r_invS_i dX1_weigh_28 (by decide) kXn1_33 kM1_33 (by decide) (Nat.le_of_ble_eq_true rfl) rfl rfl (Nat.le_of_ble_eq_true rfl) (Nat.le_of_ble_eq_true rfl) (c_at (by omega) (st_r4 hS ha) ⟨_, rfl, ?_⟩)
      refine r_aload_n dX1_weigh_31 rfl ?_
      refine r_get0 dX1_weigh_32 kF1_61 (st_o hS ha) ?_
      refine r_aload_n dX1_weigh_35 rfl ?_
      refine r_get0 dX1_weigh_36 kF1_64 (st_o hS ha) ?_
      refine r_invV_v dX1_weigh_39 kM1_67 (by decide) (Nat.le_of_ble_eq_true rfl) rfl rfl (Nat.le_of_ble_eq_true rfl) (Nat.le_of_ble_eq_true rfl) (sh_o hS rfl (by decide)) (vi_lookUp1 (by omega) hS ⟨rfl, ?_⟩)
      refine r_aload_n dX1_weigh_42 rfl ?_
      refine r_iload_n dX1_weigh_43 rfl ?_
      refine r_iconst dX1_weigh_44 (by decide) ?_
      refine r_idiv dX1_weigh_45 (by decide) ?_
      refine r_aload_n dX1_weigh_46 rfl ?_
      refine r_getS (v := (a + 2)) dX1_weigh_47 kF1_71 (st_o hS ha) (st_f1 hS ha) ?_
      refine r_iload_n dX1_weigh_50 rfl ?_
      refine r_invS_i dX1_weigh_51 (by decide) kXn1_33 kM1_33 (by decide) (Nat.le_of_ble_eq_true rfl) rfl rfl (Nat.le_of_ble_eq_true rfl) (Nat.le_of_ble_eq_true rfl) (c_at (by omega) (st_r2 hS ha) ⟨_, rfl, ?_⟩)
      refine r_aload_n dX1_weigh_54 rfl ?_
      refine r_getS (v := (a + 3)) dX1_weigh_55 kF1_74 (st_o hS ha) (st_f2 hS ha) ?_
      refine r_iload_n dX1_weigh_58 rfl ?_
      refine r_invS_i dX1_weigh_59 (by decide) kXn1_33 kM1_33 (by decide) (Nat.le_of_ble_eq_true rfl) rfl rfl (Nat.le_of_ble_eq_true rfl) (Nat.le_of_ble_eq_true rfl) (c_at (by omega) (st_r3 hS ha) ⟨_, rfl, ?_⟩)
      refine r_invV_i dX1_weigh_62 kM1_77 (by decide) (Nat.le_of_ble_eq_true rfl) rfl rfl (Nat.le_of_ble_eq_true rfl) (Nat.le_of_ble_eq_true rfl) (sh_o hS rfl (by decide)) (Call.mono ((h.2 c1).2 c2) (Nat.le_refl _) ?_)
      rintro _ M4 ⟨z3, rfl, s7, h5⟩
      refine ⟨_, rfl, ?_⟩
      refine r_istore_n (ls2 := [some (vR 29), some (vR a), some (vI i), some (vI z3)]) dX1_weigh_65 (Nat.le_of_ble_eq_true rfl) rfl ?_
      refine r_aload_n dX1_weigh_66 rfl ?_
      refine r_getS (v := (a + 5)) dX1_weigh_67 kF1_81 (st_o s7 ha) (st_f4 s7 ha) ?_
      refine r_iload_n dX1_weigh_70 rfl ?_
      refine r_iload_n dX1_weigh_71 rfl ?_
      refine r_invS_v dX1_weigh_72 (by decide) kXn1_84 kM1_84 (by decide) (Nat.le_of_ble_eq_true rfl) rfl rfl (Nat.le_of_ble_eq_true rfl) (Nat.le_of_ble_eq_true rfl) (c_put (by omega) (st_r5 s7 ha) (by have := st_6 ha; omega) ⟨rfl, ?_⟩)
      refine r_iinc (ls2 := [some (vR 29), some (vR a), some (vI (w32 (i + (1 : Int)))), some (vI z3)]) dX1_weigh_75 rfl rfl ?_
      refine r_goto (tgt := 2) dX1_weigh_78 rfl ?_
      exact h5
theorem vi_sinks {e : Nat} {M : jM} {Q : Option jV → jM → Prop} {a : Nat} {p : Int} (he : 1 ≤ e) (ha : isSt a = true) (hS : Shp M)
  (h : Call e mX7_weight [vR a, vI p] M (fun r4 M2 => ∃ z1 : Int, r4 = some (vL z1) ∧ Shp M2 ∧ (Q (some (vI (if (jcmp z1 (w64 ((1000000 : Int) * (iv M2 29 1)))) ≤ (0 : Int) then (0 : Int) else (1 : Int)))) M2))) :
  Call (e + 1) mX1_sinks [vR 29, vR a, vI p] M Q := by
  show Run (e + 1) mX1_sinks 0 [some (vR 29), some (vR a), some (vI p)] [] M Q
  refine r_aload_n dX1_sinks_0 rfl ?_
  refine r_iload_n dX1_sinks_1 rfl ?_
  refine r_invV_l dX1_sinks_2 kM1_106 (by decide) (Nat.le_of_ble_eq_true rfl) rfl rfl (Nat.le_of_ble_eq_true rfl) (Nat.le_of_ble_eq_true rfl) (st_o hS ha) (Call.mono h (Nat.le_refl _) ?_)
  rintro _ M2 ⟨z1, rfl, s5, h3⟩
  refine ⟨_, rfl, ?_⟩
  refine r_ldc2 dX1_sinks_5 kL1_110 ?_
  refine r_aload_n dX1_sinks_8 rfl ?_
  refine r_get0 dX1_sinks_9 kF1_37 (sh_o s5 rfl (by decide)) ?_
  refine r_i2l dX1_sinks_12 ?_
  refine r_lmul dX1_sinks_13 ?_
  refine r_lcmp dX1_sinks_14 ?_
  have K6 : Run (e + 1) mX1_sinks 23 [some (vR 29), some (vR a), some (vI p)] [vI (if (jcmp z1 (w64 ((1000000 : Int) * (iv M2 29 1)))) ≤ (0 : Int) then (0 : Int) else (1 : Int))] M2 Q := by
    exact r_zret dX1_sinks_23 rfl (by (repeat' split) <;> first | exact Or.inl rfl | exact Or.inr rfl) h3
  refine r_if_le dX1_sinks_15 rfl (fun q7 => ?_) (fun q7 => ?_)
  · rw [if_pos q7] at K6
    refine r_iconst dX1_sinks_22 (by decide) ?_
    exact K6
  · rw [if_neg q7] at K6
    refine r_iconst dX1_sinks_18 (by decide) ?_
    refine r_goto (tgt := 23) dX1_sinks_19 rfl ?_
    exact K6
theorem vi_floating {e : Nat} {M : jM} {Q : Option jV → jM → Prop} {a : Nat} (he : 1 ≤ e) (ha : isSt a = true) (hS : Shp M)
  (h : Run (e + 1) mX1_floating 4 [some (vR 29), some (vR a), some (vI (0 : Int)), some (vI (0 : Int))] [] M Q) :
  Call (e + 1) mX1_floating [vR 29, vR a] M Q := by
  show Run (e + 1) mX1_floating 0 [some (vR 29), some (vR a), none, none] [] M Q
  refine r_iconst dX1_floating_0 (by decide) ?_
  refine r_istore_n (ls2 := [some (vR 29), some (vR a), some (vI (0 : Int)), none]) dX1_floating_1 (Nat.le_of_ble_eq_true rfl) rfl ?_
  refine r_iconst dX1_floating_2 (by decide) ?_
  refine r_istore_n (ls2 := [some (vR 29), some (vR a), some (vI (0 : Int)), some (vI (0 : Int))]) dX1_floating_3 (Nat.le_of_ble_eq_true rfl) rfl ?_
  exact h
theorem vi_floating_4 {e : Nat} {M : jM} {Q : Option jV → jM → Prop} {a : Nat} {b : Int} {i : Int}  (he : 1 ≤ e) (ha : isSt a = true) (hS : Shp M)
  (h : (((iv M 29 0) ≤ i) → (Q (some (vI b)) M)) ∧ (¬ ((iv M 29 0) ≤ i) → (Call e mX7_floats [vR a, vI i] M (fun r5 M3 => ∃ z2 : Int, r5 = some (vI z2) ∧ Shp M3 ∧ (Run (e + 1) mX1_floating 4 [some (vR 29), some (vR a), some (vI (jor b (if z2 = (0 : Int) then (0 : Int) else jshl (1 : Int) i))), some (vI (w32 (i + (1 : Int))))] [] M3 Q))))) :
  Run (e + 1) mX1_floating 4 [some (vR 29), some (vR a), some (vI b), some (vI i)] [] M Q := by
  refine r_iload_n dX1_floating_4 rfl ?_
  refine r_aload_n dX1_floating_5 rfl ?_
  refine r_get0 dX1_floating_6 kF1_29 (sh_o hS rfl (by decide)) ?_
  refine r_icmp_ge dX1_floating_9 rfl (fun c1 => ?_) (fun c1 => ?_)
  · refine r_iload_n dX1_floating_36 rfl ?_
    exact r_iret dX1_floating_37 rfl (h.1 c1)
  · refine r_iload_n dX1_floating_12 rfl ?_
    refine r_aload_n dX1_floating_13 rfl ?_
    refine r_iload_n dX1_floating_14 rfl ?_
    refine r_invV_i dX1_floating_15 kM1_112 (by decide) (Nat.le_of_ble_eq_true rfl) rfl rfl (Nat.le_of_ble_eq_true rfl) (Nat.le_of_ble_eq_true rfl) (st_o hS ha) (Call.mono (h.2 c1) (Nat.le_refl _) ?_)
    rintro _ M3 ⟨z2, rfl, s6, h4⟩
    refine ⟨_, rfl, ?_⟩
    have K7 : Run (e + 1) mX1_floating 28 [some (vR 29), some (vR a), some (vI b), some (vI i)] [vI (if z2 = (0 : Int) then (0 : Int) else jshl (1 : Int) i), vI b] M3 Q := by
      refine r_ior dX1_floating_28 ?_
      refine r_istore_n (ls2 := [some (vR 29), some (vR a), some (vI (jor b (if z2 = (0 : Int) then (0 : Int) else jshl (1 : Int) i))), some (vI i)]) dX1_floating_29 (Nat.le_of_ble_eq_true rfl) rfl ?_
      refine r_iinc (ls2 := [some (vR 29), some (vR a), some (vI (jor b (if z2 = (0 : Int) then (0 : Int) else jshl (1 : Int) i))), some (vI (w32 (i + (1 : Int))))]) dX1_floating_30 rfl rfl ?_
      refine r_goto (tgt := 4) dX1_floating_33 rfl ?_
      exact h4
    refine r_if_eq dX1_floating_18 rfl (fun q8 => ?_) (fun q8 => ?_)
    · rw [if_pos q8] at K7
      refine r_iconst dX1_floating_27 (by decide) ?_
      exact K7
    · rw [if_neg q8] at K7
      refine r_iconst dX1_floating_21 (by decide) ?_
      refine r_iload_n dX1_floating_22 rfl ?_
      refine r_ishl dX1_floating_23 ?_
      refine r_goto (tgt := 28) dX1_floating_24 rfl ?_
      exact K7
theorem vi_sinking {e : Nat} {M : jM} {Q : Option jV → jM → Prop} {a : Nat} (he : 1 ≤ e) (ha : isSt a = true) (hS : Shp M)
  (h : Run (e + 1) mX1_sinking 4 [some (vR 29), some (vR a), some (vI (0 : Int)), some (vI (0 : Int))] [] M Q) :
  Call (e + 1) mX1_sinking [vR 29, vR a] M Q := by
  show Run (e + 1) mX1_sinking 0 [some (vR 29), some (vR a), none, none] [] M Q
  refine r_iconst dX1_sinking_0 (by decide) ?_
  refine r_istore_n (ls2 := [some (vR 29), some (vR a), some (vI (0 : Int)), none]) dX1_sinking_1 (Nat.le_of_ble_eq_true rfl) rfl ?_
  refine r_iconst dX1_sinking_2 (by decide) ?_
  refine r_istore_n (ls2 := [some (vR 29), some (vR a), some (vI (0 : Int)), some (vI (0 : Int))]) dX1_sinking_3 (Nat.le_of_ble_eq_true rfl) rfl ?_
  exact h
theorem vi_sinking_4 {e : Nat} {M : jM} {Q : Option jV → jM → Prop} {a : Nat} {b : Int} {i : Int}  (he : 1 ≤ e) (ha : isSt a = true) (hS : Shp M)
  (h : (((iv M 29 0) ≤ i) → (Q (some (vI b)) M)) ∧ (¬ ((iv M 29 0) ≤ i) → (Call e mX1_sinks [vR 29, vR a, vI i] M (fun r5 M3 => ∃ z2 : Int, r5 = some (vI z2) ∧ Shp M3 ∧ (Run (e + 1) mX1_sinking 4 [some (vR 29), some (vR a), some (vI (jor b (if z2 = (0 : Int) then (0 : Int) else jshl (1 : Int) i))), some (vI (w32 (i + (1 : Int))))] [] M3 Q))))) :
  Run (e + 1) mX1_sinking 4 [some (vR 29), some (vR a), some (vI b), some (vI i)] [] M Q := by
  refine r_iload_n dX1_sinking_4 rfl ?_
  refine r_aload_n dX1_sinking_5 rfl ?_
  refine r_get0 dX1_sinking_6 kF1_29 (sh_o hS rfl (by decide)) ?_
  refine r_icmp_ge dX1_sinking_9 rfl (fun c1 => ?_) (fun c1 => ?_)
  · refine r_iload_n dX1_sinking_37 rfl ?_
    exact r_iret dX1_sinking_38 rfl (h.1 c1)
  · refine r_iload_n dX1_sinking_12 rfl ?_
    refine r_aload_n dX1_sinking_13 rfl ?_
    refine r_aload_n dX1_sinking_14 rfl ?_
    refine r_iload_n dX1_sinking_15 rfl ?_
    refine r_invV_i dX1_sinking_16 kM1_116 (by decide) (Nat.le_of_ble_eq_true rfl) rfl rfl (Nat.le_of_ble_eq_true rfl) (Nat.le_of_ble_eq_true rfl) (sh_o hS rfl (by decide)) (Call.mono (h.2 c1) (Nat.le_refl _) ?_)
    rintro _ M3 ⟨z2, rfl, s6, h4⟩
    refine ⟨_, rfl, ?_⟩
    have K7 : Run (e + 1) mX1_sinking 29 [some (vR 29), some (vR a), some (vI b), some (vI i)] [vI (if z2 = (0 : Int) then (0 : Int) else jshl (1 : Int) i), vI b] M3 Q := by
      refine r_ior dX1_sinking_29 ?_
      refine r_istore_n (ls2 := [some (vR 29), some (vR a), some (vI (jor b (if z2 = (0 : Int) then (0 : Int) else jshl (1 : Int) i))), some (vI i)]) dX1_sinking_30 (Nat.le_of_ble_eq_true rfl) rfl ?_
      refine r_iinc (ls2 := [some (vR 29), some (vR a), some (vI (jor b (if z2 = (0 : Int) then (0 : Int) else jshl (1 : Int) i))), some (vI (w32 (i + (1 : Int))))]) dX1_sinking_31 rfl rfl ?_
      refine r_goto (tgt := 4) dX1_sinking_34 rfl ?_
      exact h4
    refine r_if_eq dX1_sinking_19 rfl (fun q8 => ?_) (fun q8 => ?_)
    · rw [if_pos q8] at K7
      refine r_iconst dX1_sinking_28 (by decide) ?_
      exact K7
    · rw [if_neg q8] at K7
      refine r_iconst dX1_sinking_22 (by decide) ?_
      refine r_iload_n dX1_sinking_23 rfl ?_
      refine r_ishl dX1_sinking_24 ?_
      refine r_goto (tgt := 29) dX1_sinking_25 rfl ?_
      exact K7
theorem vi_able {e : Nat} {M : jM} {Q : Option jV → jM → Prop} {a : Nat} {p : Int} (he : 1 ≤ e) (ha : isSt a = true) (hS : Shp M)
  (h : Run (e + 1) mX1_ableToThinkPolitely 5 [some (vR 29), some (vR a), some (vI p), some (vI (0 : Int)), some (vI (0 : Int)), none] [] M Q) :
  Call (e + 1) mX1_ableToThinkPolitely [vR 29, vR a, vI p] M Q := by
  show Run (e + 1) mX1_ableToThinkPolitely 0 [some (vR 29), some (vR a), some (vI p), none, none, none] [] M Q
  refine r_iconst dX1_ableToThinkPolitely_0 (by decide) ?_
  refine r_istore_n (ls2 := [some (vR 29), some (vR a), some (vI p), some (vI (0 : Int)), none, none]) dX1_ableToThinkPolitely_1 (Nat.le_of_ble_eq_true rfl) rfl ?_
  refine r_iconst dX1_ableToThinkPolitely_2 (by decide) ?_
  refine r_istore (ls2 := [some (vR 29), some (vR a), some (vI p), some (vI (0 : Int)), some (vI (0 : Int)), none]) dX1_ableToThinkPolitely_3 (Nat.le_of_ble_eq_true rfl) rfl ?_
  exact h
theorem vi_able_5 {e : Nat} {M : jM} {Q : Option jV → jM → Prop} {a : Nat} {p : Int} {b : Int} {i : Int} {l5 : Option jV}  (he : 1 ≤ e) (ha : isSt a = true) (hS : Shp M)
  (h : (((iv M 29 0) ≤ i) → (Q (some (vI b)) M)) ∧ (¬ ((iv M 29 0) ≤ i) → (((i = p) → (Run (e + 1) mX1_ableToThinkPolitely 5 [some (vR 29), some (vR a), some (vI p), some (vI (jor b (0 : Int))), some (vI (w32 (i + (1 : Int)))), some (vI (0 : Int))] [] M Q)) ∧ (¬ (i = p) → (Call e mX1_takes [vR 29, vI i, vI (0 : Int)] M (fun r6 M4 => ∃ z3 : Int, r6 = some (vI z3) ∧ Shp M4 ∧ (((z3 = (0 : Int)) → (Run (e + 1) mX1_ableToThinkPolitely 5 [some (vR 29), some (vR a), some (vI p), some (vI (jor b (0 : Int))), some (vI (w32 (i + (1 : Int)))), some (vI (0 : Int))] [] M4 Q)) ∧ (¬ (z3 = (0 : Int)) → (Call e mX7_emptyPlace [vR a, vI i] M4 (fun r12 M10 => ∃ z9 : Int, r12 = some (vI z9) ∧ Shp M10 ∧ (Run (e + 1) mX1_ableToThinkPolitely 5 [some (vR 29), some (vR a), some (vI p), some (vI (jor b (if (if z9 = (-1 : Int) then (0 : Int) else (1 : Int)) = (0 : Int) then (0 : Int) else jshl (1 : Int) i))), some (vI (w32 (i + (1 : Int)))), some (vI (if z9 = (-1 : Int) then (0 : Int) else (1 : Int)))] [] M10 Q))))))))))) :
  Run (e + 1) mX1_ableToThinkPolitely 5 [some (vR 29), some (vR a), some (vI p), some (vI b), some (vI i), l5] [] M Q := by
  refine r_iload dX1_ableToThinkPolitely_5 rfl ?_
  refine r_aload_n dX1_ableToThinkPolitely_7 rfl ?_
  refine r_get0 dX1_ableToThinkPolitely_8 kF1_29 (sh_o hS rfl (by decide)) ?_
  refine r_icmp_ge dX1_ableToThinkPolitely_11 rfl (fun c1 => ?_) (fun c1 => ?_)
  · refine r_iload_n dX1_ableToThinkPolitely_69 rfl ?_
    exact r_iret dX1_ableToThinkPolitely_70 rfl (h.1 c1)
  · refine r_iload dX1_ableToThinkPolitely_14 rfl ?_
    refine r_iload_n dX1_ableToThinkPolitely_16 rfl ?_
    refine r_icmp_eq dX1_ableToThinkPolitely_17 rfl (fun c2 => ?_) (fun c2 => ?_)
    · refine r_iconst dX1_ableToThinkPolitely_44 (by decide) ?_
      refine r_istore (ls2 := [some (vR 29), some (vR a), some (vI p), some (vI b), some (vI i), some (vI (0 : Int))]) dX1_ableToThinkPolitely_45 (Nat.le_of_ble_eq_true rfl) rfl ?_
      refine r_iload_n dX1_ableToThinkPolitely_47 rfl ?_
      refine r_iload dX1_ableToThinkPolitely_48 rfl ?_
      refine r_if_eq dX1_ableToThinkPolitely_50 rfl (fun _ => ?_) (fun q => absurd (by decide) q)
      refine r_iconst dX1_ableToThinkPolitely_60 (by decide) ?_
      refine r_ior dX1_ableToThinkPolitely_61 ?_
      refine r_istore_n (ls2 := [some (vR 29), some (vR a), some (vI p), some (vI (jor b (0 : Int))), some (vI i), some (vI (0 : Int))]) dX1_ableToThinkPolitely_62 (Nat.le_of_ble_eq_true rfl) rfl ?_
      refine r_iinc (ls2 := [some (vR 29), some (vR a), some (vI p), some (vI (jor b (0 : Int))), some (vI (w32 (i + (1 : Int)))), some (vI (0 : Int))]) dX1_ableToThinkPolitely_63 rfl rfl ?_
      refine r_goto (tgt := 5) dX1_ableToThinkPolitely_66 rfl ?_
      exact ((h.2 c1).1 c2)
    · refine r_aload_n dX1_ableToThinkPolitely_20 rfl ?_
      refine r_iload dX1_ableToThinkPolitely_21 rfl ?_
      refine r_iconst dX1_ableToThinkPolitely_23 (by decide) ?_
      refine r_invV_i dX1_ableToThinkPolitely_24 kM1_120 (by decide) (Nat.le_of_ble_eq_true rfl) rfl rfl (Nat.le_of_ble_eq_true rfl) (Nat.le_of_ble_eq_true rfl) (sh_o hS rfl (by decide)) (Call.mono ((h.2 c1).2 c2) (Nat.le_refl _) ?_)
      rintro _ M4 ⟨z3, rfl, s7, h5⟩
      refine ⟨_, rfl, ?_⟩
      refine r_if_eq dX1_ableToThinkPolitely_27 rfl (fun c8 => ?_) (fun c8 => ?_)
      · refine r_iconst dX1_ableToThinkPolitely_44 (by decide) ?_
        refine r_istore (ls2 := [some (vR 29), some (vR a), some (vI p), some (vI b), some (vI i), some (vI (0 : Int))]) dX1_ableToThinkPolitely_45 (Nat.le_of_ble_eq_true rfl) rfl ?_
        refine r_iload_n dX1_ableToThinkPolitely_47 rfl ?_
        refine r_iload dX1_ableToThinkPolitely_48 rfl ?_
        refine r_if_eq dX1_ableToThinkPolitely_50 rfl (fun _ => ?_) (fun q => absurd (by decide) q)
        refine r_iconst dX1_ableToThinkPolitely_60 (by decide) ?_
        refine r_ior dX1_ableToThinkPolitely_61 ?_
        refine r_istore_n (ls2 := [some (vR 29), some (vR a), some (vI p), some (vI (jor b (0 : Int))), some (vI i), some (vI (0 : Int))]) dX1_ableToThinkPolitely_62 (Nat.le_of_ble_eq_true rfl) rfl ?_
        refine r_iinc (ls2 := [some (vR 29), some (vR a), some (vI p), some (vI (jor b (0 : Int))), some (vI (w32 (i + (1 : Int)))), some (vI (0 : Int))]) dX1_ableToThinkPolitely_63 rfl rfl ?_
        refine r_goto (tgt := 5) dX1_ableToThinkPolitely_66 rfl ?_
        exact (h5.1 c8)
      · refine r_aload_n dX1_ableToThinkPolitely_30 rfl ?_
        refine r_iload dX1_ableToThinkPolitely_31 rfl ?_
        refine r_invV_i dX1_ableToThinkPolitely_33 kM1_123 (by decide) (Nat.le_of_ble_eq_true rfl) rfl rfl (Nat.le_of_ble_eq_true rfl) (Nat.le_of_ble_eq_true rfl) (st_o s7 ha) (Call.mono (h5.2 c8) (Nat.le_refl _) ?_)
        rintro _ M10 ⟨z9, rfl, s13, h11⟩
        refine ⟨_, rfl, ?_⟩
        refine r_iconst dX1_ableToThinkPolitely_36 (by decide) ?_
        have K14 : Run (e + 1) mX1_ableToThinkPolitely 45 [some (vR 29), some (vR a), some (vI p), some (vI b), some (vI i), l5] [vI (if z9 = (-1 : Int) then (0 : Int) else (1 : Int))] M10 Q := by
          refine r_istore (ls2 := [some (vR 29), some (vR a), some (vI p), some (vI b), some (vI i), some (vI (if z9 = (-1 : Int) then (0 : Int) else (1 : Int)))]) dX1_ableToThinkPolitely_45 (Nat.le_of_ble_eq_true rfl) rfl ?_
          refine r_iload_n dX1_ableToThinkPolitely_47 rfl ?_
          refine r_iload dX1_ableToThinkPolitely_48 rfl ?_
          have K15 : Run (e + 1) mX1_ableToThinkPolitely 61 [some (vR 29), some (vR a), some (vI p), some (vI b), some (vI i), some (vI (if z9 = (-1 : Int) then (0 : Int) else (1 : Int)))] [vI (if (if z9 = (-1 : Int) then (0 : Int) else (1 : Int)) = (0 : Int) then (0 : Int) else jshl (1 : Int) i), vI b] M10 Q := by
            refine r_ior dX1_ableToThinkPolitely_61 ?_
            refine r_istore_n (ls2 := [some (vR 29), some (vR a), some (vI p), some (vI (jor b (if (if z9 = (-1 : Int) then (0 : Int) else (1 : Int)) = (0 : Int) then (0 : Int) else jshl (1 : Int) i))), some (vI i), some (vI (if z9 = (-1 : Int) then (0 : Int) else (1 : Int)))]) dX1_ableToThinkPolitely_62 (Nat.le_of_ble_eq_true rfl) rfl ?_
            refine r_iinc (ls2 := [some (vR 29), some (vR a), some (vI p), some (vI (jor b (if (if z9 = (-1 : Int) then (0 : Int) else (1 : Int)) = (0 : Int) then (0 : Int) else jshl (1 : Int) i))), some (vI (w32 (i + (1 : Int)))), some (vI (if z9 = (-1 : Int) then (0 : Int) else (1 : Int)))]) dX1_ableToThinkPolitely_63 rfl rfl ?_
            refine r_goto (tgt := 5) dX1_ableToThinkPolitely_66 rfl ?_
            exact h11
          refine r_if_eq dX1_ableToThinkPolitely_50 rfl (fun q16 => ?_) (fun q16 => ?_)
          · rw [if_pos q16] at K15
            refine r_iconst dX1_ableToThinkPolitely_60 (by decide) ?_
            exact K15
          · rw [if_neg q16] at K15
            refine r_iconst dX1_ableToThinkPolitely_53 (by decide) ?_
            refine r_iload dX1_ableToThinkPolitely_54 rfl ?_
            refine r_ishl dX1_ableToThinkPolitely_56 ?_
            refine r_goto (tgt := 61) dX1_ableToThinkPolitely_57 rfl ?_
            exact K15
        refine r_icmp_eq dX1_ableToThinkPolitely_37 rfl (fun q18 => ?_) (fun q18 => ?_)
        · rw [if_pos q18] at K14
          refine r_iconst dX1_ableToThinkPolitely_44 (by decide) ?_
          exact K14
        · rw [if_neg q18] at K14
          refine r_iconst dX1_ableToThinkPolitely_40 (by decide) ?_
          refine r_goto (tgt := 45) dX1_ableToThinkPolitely_41 rfl ?_
          exact K14
