/-! THE LAW's loop -/
section LLoop
variable {d L w : Nat}
def LQ (w : Nat) : Option jV → jM → Prop := fun r M => r = some (vI 1) ∧ mx M ≤ 4596 ∧ ms M ≤ w + 1024000
theorem law_loop (hd : 724 ≤ d) (hL : L ≤ 3072) : ∀ (n c : Nat) (W : kW) (M : jM) (a b : Option jV), L < 6 * c + 6 * n → 6 * c ≤ L → LWc L w c W M → Run (d + 1 + 1) mL_law 23 (lsL (6 * c) a b) [] M (LQ w) := by
  intro n
  induction n with
  | zero => intro c W M a b hn hc; omega
  | succ n ih =>
    intro c W M a b hn hc h
    have hS := h.2.1.shp
    have hb := h.2.2.2.row hS
    refine r_iload dL_law_23 rfl ?_
    refine r_aload_n dL_law_25 rfl ?_
    refine r_lenS dL_law_26 hb (by decide) ?_
    refine r_bipush dL_law_27 (by decide) ?_
    refine r_isub dL_law_29 ?_
    rw [w32_i (by omega) (by omega)]
    refine r_icmp_gt (tgt := 1519) dL_law_30 rfl (fun _ => ?_) (fun hi => ?_)
    · refine r_iconst dL_law_1519 (by decide) ?_
      obtain ⟨_, _, _, _, m1, m2⟩ := h.2.2.2
      exact r_zret dL_law_1520 rfl (by decide) ⟨rfl, by omega, Nat.le_trans m2 (Nat.add_le_add_left (Nat.mul_le_mul_left 2000 (show c ≤ 512 by omega)) w)⟩
    · have hi6 : 6 * c + 6 ≤ L := by omega
      have K : ∀ (a b : Option jV) (W2 : kW) (M2 : jM), LWc L w (c + 1) W2 M2 → Run (d + 1 + 1) mL_law 1513 (lsL (6 * c) a b) [] M2 (LQ w) := fun a b W2 M2 h2 => by
        have e6 : w32 (((6 * c : Nat) : Int) + 6) = ((6 * (c + 1) : Nat) : Int) := by
          rw [w32_i (by omega) (by omega)]
          omega
        refine r_iinc (ls2 := lsL (6 * (c + 1)) a b) dL_law_1513 rfl (by rw [e6]; rfl) ?_
        refine r_goto (tgt := 23) dL_law_1516 rfl ?_
        exact ih (c + 1) W2 M2 a b (by omega) (by omega) h2
      refine r_aload_n dL_law_33 rfl ?_
      refine r_iload dL_law_34 rfl ?_
      refine r_iaload dL_law_36 (jro_ix hb (by omega)) ?_
      refine r_bipush dL_law_37 (by decide) ?_
      refine r_iand dL_law_39 ?_
      generalize jand (iv M 5 (((6 * c : Nat) : Int)).toNat) 63 = x
      by_cases hx : x < 0 ∨ 37 < x
      · refine r_tab_out (tgt := 1513) dL_law_40 hx rfl ?_
        exact K a b W M ⟨h.1, h.2.1, h.2.2.1, h.2.2.2.up⟩
      · rcases (show x = 0 ∨ x = 1 ∨ x = 2 ∨ x = 3 ∨ x = 4 ∨ x = 5 ∨ x = 6 ∨ x = 7 ∨ x = 8 ∨ x = 9 ∨ x = 10 ∨ x = 11 ∨ x = 12 ∨ x = 13 ∨ x = 14 ∨ x = 15 ∨ x = 16 ∨ x = 17 ∨ x = 18 ∨ x = 19 ∨ x = 20 ∨ x = 21 ∨ x = 22 ∨ x = 23 ∨ x = 24 ∨ x = 25 ∨ x = 26 ∨ x = 27 ∨ x = 28 ∨ x = 29 ∨ x = 30 ∨ x = 31 ∨ x = 32 ∨ x = 33 ∨ x = 34 ∨ x = 35 ∨ x = 36 ∨ x = 37 by omega) with e | e | e | e | e | e | e | e | e | e | e | e | e | e | e | e | e | e | e | e | e | e | e | e | e | e | e | e | e | e | e | e | e | e | e | e | e | e
        · refine r_tab_eq (tgt := 208) dL_law_40 e (by decide) rfl rfl ?_
          exact law_c0 hd hL hi6 h (fun W2 M2 => K a b W2 M2)
        · refine r_tab_eq (tgt := 281) dL_law_40 e (by decide) rfl rfl ?_
          exact law_c1 hd hL hi6 h (fun W2 M2 => K a b W2 M2)
        · refine r_tab_eq (tgt := 306) dL_law_40 e (by decide) rfl rfl ?_
          exact law_c2 hd hL hi6 h (fun W2 M2 => K a b W2 M2)
        · refine r_tab_eq (tgt := 331) dL_law_40 e (by decide) rfl rfl ?_
          exact law_c3 hd hL hi6 h (fun W2 M2 => K a b W2 M2)
        · refine r_tab_eq (tgt := 356) dL_law_40 e (by decide) rfl rfl ?_
          exact law_c4 hd hL hi6 h (fun W2 M2 => K a b W2 M2)
        · refine r_tab_eq (tgt := 381) dL_law_40 e (by decide) rfl rfl ?_
          exact law_c5 hd hL hi6 h K
        · refine r_tab_eq (tgt := 449) dL_law_40 e (by decide) rfl rfl ?_
          exact law_c6 hd hL hi6 h (fun W2 M2 => K a b W2 M2)
        · refine r_tab_eq (tgt := 498) dL_law_40 e (by decide) rfl rfl ?_
          exact law_c7 hd hL hi6 h (fun W2 M2 => K a b W2 M2)
        · refine r_tab_eq (tgt := 535) dL_law_40 e (by decide) rfl rfl ?_
          exact law_c8 hd hL hi6 h (fun W2 M2 => K a b W2 M2)
        · refine r_tab_eq (tgt := 560) dL_law_40 e (by decide) rfl rfl ?_
          exact law_c9 hd hL hi6 h (fun W2 M2 => K a b W2 M2)
        · refine r_tab_eq (tgt := 585) dL_law_40 e (by decide) rfl rfl ?_
          exact law_c10 hd hL hi6 h (fun W2 M2 => K a b W2 M2)
        · refine r_tab_eq (tgt := 610) dL_law_40 e (by decide) rfl rfl ?_
          exact law_c11 hd hL hi6 h (fun W2 M2 => K a b W2 M2)
        · refine r_tab_eq (tgt := 671) dL_law_40 e (by decide) rfl rfl ?_
          exact law_c12 hd hL hi6 h (fun W2 M2 => K a b W2 M2)
        · refine r_tab_eq (tgt := 708) dL_law_40 e (by decide) rfl rfl ?_
          exact law_c13 hd hL hi6 h (fun W2 M2 => K a b W2 M2)
        · refine r_tab_eq (tgt := 745) dL_law_40 e (by decide) rfl rfl ?_
          exact law_c14 hd hL hi6 h (fun W2 M2 => K a b W2 M2)
        · refine r_tab_eq (tgt := 770) dL_law_40 e (by decide) rfl rfl ?_
          exact law_c15 hd hL hi6 h (fun W2 M2 => K a b W2 M2)
        · refine r_tab_eq (tgt := 795) dL_law_40 e (by decide) rfl rfl ?_
          exact law_c16 hd hL hi6 h (fun W2 M2 => K a b W2 M2)
        · refine r_tab_eq (tgt := 864) dL_law_40 e (by decide) rfl rfl ?_
          exact law_c17 hd hL hi6 h (fun W2 M2 => K a b W2 M2)
        · refine r_tab_eq (tgt := 889) dL_law_40 e (by decide) rfl rfl ?_
          exact law_c18 hd hL hi6 h (fun W2 M2 => K a b W2 M2)
        · refine r_tab_eq (tgt := 902) dL_law_40 e (by decide) rfl rfl ?_
          exact law_c19 hd hL hi6 h (fun W2 M2 => K a b W2 M2)
        · refine r_tab_eq (tgt := 939) dL_law_40 e (by decide) rfl rfl ?_
          exact law_c20 hd hL hi6 h (fun W2 M2 => K a b W2 M2)
        · refine r_tab_eq (tgt := 976) dL_law_40 e (by decide) rfl rfl ?_
          exact law_c21 hd hL hi6 h (fun W2 M2 => K a b W2 M2)
        · refine r_tab_eq (tgt := 1001) dL_law_40 e (by decide) rfl rfl ?_
          exact law_c22 hd hL hi6 h (fun W2 M2 => K a b W2 M2)
        · refine r_tab_eq (tgt := 1026) dL_law_40 e (by decide) rfl rfl ?_
          exact law_c23 hd hL hi6 h (fun W2 M2 => K a b W2 M2)
        · refine r_tab_eq (tgt := 1039) dL_law_40 e (by decide) rfl rfl ?_
          exact law_c24 hd hL hi6 h (fun W2 M2 => K a b W2 M2)
        · refine r_tab_eq (tgt := 1052) dL_law_40 e (by decide) rfl rfl ?_
          exact law_c25 hd hL hi6 h (fun W2 M2 => K a b W2 M2)
        · refine r_tab_eq (tgt := 1077) dL_law_40 e (by decide) rfl rfl ?_
          exact law_c26 hd hL hi6 h (fun W2 M2 => K a b W2 M2)
        · refine r_tab_eq (tgt := 1102) dL_law_40 e (by decide) rfl rfl ?_
          exact law_c27 hd hL hi6 h (fun W2 M2 => K a b W2 M2)
        · refine r_tab_eq (tgt := 1179) dL_law_40 e (by decide) rfl rfl ?_
          exact law_c28 hd hL hi6 h (fun W2 M2 => K a b W2 M2)
        · refine r_tab_eq (tgt := 1204) dL_law_40 e (by decide) rfl rfl ?_
          exact law_c29 hd hL hi6 h (fun W2 M2 => K a b W2 M2)
        · refine r_tab_eq (tgt := 1229) dL_law_40 e (by decide) rfl rfl ?_
          exact law_c30 hd hL hi6 h (fun W2 M2 => K a b W2 M2)
        · refine r_tab_eq (tgt := 1302) dL_law_40 e (by decide) rfl rfl ?_
          exact law_c31 hd hL hi6 h (fun W2 M2 => K a b W2 M2)
        · refine r_tab_eq (tgt := 1351) dL_law_40 e (by decide) rfl rfl ?_
          exact law_c32 hd hL hi6 h (fun W2 M2 => K a b W2 M2)
        · refine r_tab_eq (tgt := 1400) dL_law_40 e (by decide) rfl rfl ?_
          exact law_c33 hd hL hi6 h (fun W2 M2 => K a b W2 M2)
        · refine r_tab_eq (tgt := 1437) dL_law_40 e (by decide) rfl rfl ?_
          exact law_c34 hd hL hi6 h (fun W2 M2 => K a b W2 M2)
        · refine r_tab_eq (tgt := 1462) dL_law_40 e (by decide) rfl rfl ?_
          exact law_c35 hd hL hi6 h (fun W2 M2 => K a b W2 M2)
        · refine r_tab_eq (tgt := 1475) dL_law_40 e (by decide) rfl rfl ?_
          exact law_c36 hd hL hi6 h (fun W2 M2 => K a b W2 M2)
        · refine r_tab_eq (tgt := 1488) dL_law_40 e (by decide) rfl rfl ?_
          exact law_c37 hd hL hi6 h (fun W2 M2 => K a b W2 M2)
end LLoop
