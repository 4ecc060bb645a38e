theorem vn_in {e : Nat} {M : jM} {Q : Option jV → jM → Prop} {v : Int} {lo : Int} {hi : Int} (he : 1 ≤ e) (hS : Shp M)
  (h : Q (some (vI (if v < lo then (0 : Int) else (if hi < v then (0 : Int) else (1 : Int))))) M) :
  Call (e + 1) mX11_in [vI v, vI lo, vI hi] M Q := by
  show Run (e + 1) mX11_in 0 [some (vI v), some (vI lo), some (vI hi)] [] M Q
  refine r_iload_n dX11_in_0 rfl ?_
  refine r_iload_n dX11_in_1 rfl ?_
  have K1 : Run (e + 1) mX11_in 15 [some (vI v), some (vI lo), some (vI hi)] [vI (if v < lo then (0 : Int) else (if hi < v then (0 : Int) else (1 : Int)))] M Q := by
    exact r_zret dX11_in_15 rfl (by (repeat' split) <;> first | exact Or.inl rfl | exact Or.inr rfl) h
  refine r_icmp_lt dX11_in_2 rfl (fun q2 => ?_) (fun q2 => ?_)
  · rw [if_pos q2] at K1
    refine r_iconst dX11_in_14 (by decide) ?_
    exact K1
  · rw [if_neg q2] at K1
    refine r_iload_n dX11_in_5 rfl ?_
    refine r_iload_n dX11_in_6 rfl ?_
    refine r_icmp_gt dX11_in_7 rfl (fun q4 => ?_) (fun q4 => ?_)
    · rw [if_pos q4] at K1
      refine r_iconst dX11_in_14 (by decide) ?_
      exact K1
    · rw [if_neg q4] at K1
      refine r_iconst dX11_in_10 (by decide) ?_
      refine r_goto (tgt := 15) dX11_in_11 rfl ?_
      exact K1
theorem vn_has {e : Nat} {M : jM} {Q : Option jV → jM → Prop} {s : Int} {k : Int} (he : 1 ≤ e) (hS : Shp M)
  (h : Q (some (vI (if (jand (jshr s k) (1 : Int)) ≠ (1 : Int) then (0 : Int) else (1 : Int)))) M) :
  Call (e + 1) mX11_has [vI s, vI k] M Q := by
  show Run (e + 1) mX11_has 0 [some (vI s), some (vI k)] [] M Q
  refine r_iload_n dX11_has_0 rfl ?_
  refine r_iload_n dX11_has_1 rfl ?_
  refine r_ishr dX11_has_2 ?_
  refine r_iconst dX11_has_3 (by decide) ?_
  refine r_iand dX11_has_4 ?_
  refine r_iconst dX11_has_5 (by decide) ?_
  have K1 : Run (e + 1) mX11_has 14 [some (vI s), some (vI k)] [vI (if (jand (jshr s k) (1 : Int)) ≠ (1 : Int) then (0 : Int) else (1 : Int))] M Q := by
    exact r_zret dX11_has_14 rfl (by (repeat' split) <;> first | exact Or.inl rfl | exact Or.inr rfl) h
  refine r_icmp_ne dX11_has_6 rfl (fun q2 => ?_) (fun q2 => ?_)
  · rw [if_pos q2] at K1
    refine r_iconst dX11_has_13 (by decide) ?_
    exact K1
  · rw [if_neg q2] at K1
    refine r_iconst dX11_has_9 (by decide) ?_
    refine r_goto (tgt := 14) dX11_has_10 rfl ?_
    exact K1
theorem vn_of {e : Nat} {M : jM} {Q : Option jV → jM → Prop} {p : Int} {i : Int} {k : Int} (he : 1 ≤ e) (hS : Shp M)
  (h : (0 ≤ (w32 ((w32 ((5 : Int) * (w32 ((w32 ((4 : Int) * p)) + i)))) + k)) ∧ (w32 ((w32 ((5 : Int) * (w32 ((w32 ((4 : Int) * p)) + i)))) + k)) < 352) ∧ (Q (some (vI (iv M 486 (w32 ((w32 ((5 : Int) * (w32 ((w32 ((4 : Int) * p)) + i)))) + k)).toNat))) M)) :
  Call (e + 1) mX11_of [vR 468, vI p, vI i, vI k] M Q := by
  show Run (e + 1) mX11_of 0 [some (vR 468), some (vI p), some (vI i), some (vI k)] [] M Q
  refine r_aload_n dX11_of_0 rfl ?_
  refine r_getS (v := 486) dX11_of_1 kF11_61 (sh_o hS rfl (by decide)) (sh_f hS rfl (by decide)) ?_
  refine r_iconst dX11_of_4 (by decide) ?_
  refine r_iconst dX11_of_5 (by decide) ?_
  refine r_iload_n dX11_of_6 rfl ?_
  refine r_imul dX11_of_7 ?_
  refine r_iload_n dX11_of_8 rfl ?_
  refine r_iadd dX11_of_9 ?_
  refine r_imul dX11_of_10 ?_
  refine r_iload_n dX11_of_11 rfl ?_
  refine r_iadd dX11_of_12 ?_
  refine r_iaload dX11_of_13 (jro_ix (sh_r hS rfl (by decide)) h.1) ?_
  exact r_iret dX11_of_14 rfl h.2
theorem vn_set {e : Nat} {M : jM} {Q : Option jV → jM → Prop} {p : Int} {i : Int} {k : Int} {v : Int} (he : 1 ≤ e) (hS : Shp M)
  (h : (0 ≤ (w32 ((w32 ((5 : Int) * (w32 ((w32 ((4 : Int) * p)) + i)))) + k)) ∧ (w32 ((w32 ((5 : Int) * (w32 ((w32 ((4 : Int) * p)) + i)))) + k)) < 352) ∧ (Q none (si M 486 (w32 ((w32 ((5 : Int) * (w32 ((w32 ((4 : Int) * p)) + i)))) + k)).toNat v))) :
  Call (e + 1) mX11_set [vR 468, vI p, vI i, vI k, vI v] M Q := by
  show Run (e + 1) mX11_set 0 [some (vR 468), some (vI p), some (vI i), some (vI k), some (vI v)] [] M Q
  refine r_aload_n dX11_set_0 rfl ?_
  refine r_getS (v := 486) dX11_set_1 kF11_61 (sh_o hS rfl (by decide)) (sh_f hS rfl (by decide)) ?_
  refine r_iconst dX11_set_4 (by decide) ?_
  refine r_iconst dX11_set_5 (by decide) ?_
  refine r_iload_n dX11_set_6 rfl ?_
  refine r_imul dX11_set_7 ?_
  refine r_iload_n dX11_set_8 rfl ?_
  refine r_iadd dX11_set_9 ?_
  refine r_imul dX11_set_10 ?_
  refine r_iload_n dX11_set_11 rfl ?_
  refine r_iadd dX11_set_12 ?_
  refine r_iload dX11_set_13 rfl ?_
  refine r_iastore dX11_set_15 ⟨jro_ix (sh_r hS rfl (by decide)) h.1, (by decide)⟩ ?_
  exact r_vret dX11_set_16 rfl h.2
theorem vn_goesInto {e : Nat} {M : jM} {Q : Option jV → jM → Prop} {mi : Int} {k : Int} (he : 1 ≤ e) (hS : Shp M)
  (h : Q (some (vI (if mi = (0 : Int) then (1 : Int) else (if mi ≠ (1 : Int) then (if k ≠ (2 : Int) then (0 : Int) else (1 : Int)) else (if (2 : Int) ≤ k then (0 : Int) else (1 : Int)))))) M) :
  Call (e + 1) mX11_goesInto [vI mi, vI k] M Q := by
  show Run (e + 1) mX11_goesInto 0 [some (vI mi), some (vI k)] [] M Q
  refine r_iload_n dX11_goesInto_0 rfl ?_
  have K1 : Run (e + 1) mX11_goesInto 27 [some (vI mi), some (vI k)] [vI (if mi = (0 : Int) then (1 : Int) else (if mi ≠ (1 : Int) then (if k ≠ (2 : Int) then (0 : Int) else (1 : Int)) else (if (2 : Int) ≤ k then (0 : Int) else (1 : Int))))] M Q := by
    exact r_zret dX11_goesInto_27 rfl (by (repeat' split) <;> first | exact Or.inl rfl | exact Or.inr rfl) h
  refine r_if_eq dX11_goesInto_1 rfl (fun q2 => ?_) (fun q2 => ?_)
  · rw [if_pos q2] at K1
    refine r_iconst dX11_goesInto_22 (by decide) ?_
    refine r_goto (tgt := 27) dX11_goesInto_23 rfl ?_
    exact K1
  · rw [if_neg q2] at K1
    refine r_iload_n dX11_goesInto_4 rfl ?_
    refine r_iconst dX11_goesInto_5 (by decide) ?_
    refine r_icmp_ne dX11_goesInto_6 rfl (fun q4 => ?_) (fun q4 => ?_)
    · rw [if_pos q4] at K1
      refine r_iload_n dX11_goesInto_17 rfl ?_
      refine r_iconst dX11_goesInto_18 (by decide) ?_
      refine r_icmp_ne dX11_goesInto_19 rfl (fun q6 => ?_) (fun q6 => ?_)
      · rw [if_pos q6] at K1
        refine r_iconst dX11_goesInto_26 (by decide) ?_
        exact K1
      · rw [if_neg q6] at K1
        refine r_iconst dX11_goesInto_22 (by decide) ?_
        refine r_goto (tgt := 27) dX11_goesInto_23 rfl ?_
        exact K1
    · rw [if_neg q4] at K1
      refine r_iload_n dX11_goesInto_9 rfl ?_
      refine r_iconst dX11_goesInto_10 (by decide) ?_
      refine r_icmp_ge dX11_goesInto_11 rfl (fun q8 => ?_) (fun q8 => ?_)
      · rw [if_pos q8] at K1
        refine r_iconst dX11_goesInto_26 (by decide) ?_
        exact K1
      · rw [if_neg q8] at K1
        refine r_goto (tgt := 22) dX11_goesInto_14 rfl ?_
        refine r_iconst dX11_goesInto_22 (by decide) ?_
        refine r_goto (tgt := 27) dX11_goesInto_23 rfl ?_
        exact K1
theorem vn_bounded {e : Nat} {M : jM} {Q : Option jV → jM → Prop} {v : Int} (he : 1 ≤ e) (hS : Shp M)
  (h : Q (some (vI (w32 (if (if v < (1000000 : Int) then v else (1000000 : Int)) < (-1000000 : Int) then (-1000000 : Int) else (if v < (1000000 : Int) then v else (1000000 : Int)))))) M) :
  Call (e + 1) mX11_bounded [vL v] M Q := by
  show Run (e + 1) mX11_bounded 0 [some (vL v), none] [] M Q
  refine r_ldc2 dX11_bounded_0 kL11_199 ?_
  refine r_ldc2 dX11_bounded_3 kL11_201 ?_
  refine r_lload_n dX11_bounded_6 rfl ?_
  refine r_math3 dX11_bounded_7 (by decide) kX11_203 (Nat.le_of_ble_eq_true rfl) ?_
  refine r_math1 dX11_bounded_10 (by decide) kX11_209 (Nat.le_of_ble_eq_true rfl) ?_
  refine r_l2i dX11_bounded_13 ?_
  exact r_iret dX11_bounded_14 rfl h
theorem vn_asTold {e : Nat} {M : jM} {Q : Option jV → jM → Prop} {v : Int} (he : 1 ≤ e) (hS : Shp M)
  (h : Q (some (vI (w32 (if v < (2147483647 : Int) then v else (2147483647 : Int))))) M) :
  Call (e + 1) mX11_asTold [vL v] M Q := by
  show Run (e + 1) mX11_asTold 0 [some (vL v), none] [] M Q
  refine r_ldc2 dX11_asTold_0 kL11_338 ?_
  refine r_lload_n dX11_asTold_3 rfl ?_
  refine r_math3 dX11_asTold_4 (by decide) kX11_203 (Nat.le_of_ble_eq_true rfl) ?_
  refine r_l2i dX11_asTold_7 ?_
  exact r_iret dX11_asTold_8 rfl h
theorem vn_isDigit {e : Nat} {M : jM} {Q : Option jV → jM → Prop} {c : Int} (he : 1 ≤ e) (hS : Shp M)
  (h : Q (some (vI (if c < (48 : Int) then (0 : Int) else (if (57 : Int) < c then (0 : Int) else (1 : Int))))) M) :
  Call (e + 1) mX11_isDigit [vI c] M Q := by
  show Run (e + 1) mX11_isDigit 0 [some (vI c)] [] M Q
  refine r_iload_n dX11_isDigit_0 rfl ?_
  refine r_bipush dX11_isDigit_1 (by decide) ?_
  have K1 : Run (e + 1) mX11_isDigit 17 [some (vI c)] [vI (if c < (48 : Int) then (0 : Int) else (if (57 : Int) < c then (0 : Int) else (1 : Int)))] M Q := by
    exact r_zret dX11_isDigit_17 rfl (by (repeat' split) <;> first | exact Or.inl rfl | exact Or.inr rfl) h
  refine r_icmp_lt dX11_isDigit_3 rfl (fun q2 => ?_) (fun q2 => ?_)
  · rw [if_pos q2] at K1
    refine r_iconst dX11_isDigit_16 (by decide) ?_
    exact K1
  · rw [if_neg q2] at K1
    refine r_iload_n dX11_isDigit_6 rfl ?_
    refine r_bipush dX11_isDigit_7 (by decide) ?_
    refine r_icmp_gt dX11_isDigit_9 rfl (fun q4 => ?_) (fun q4 => ?_)
    · rw [if_pos q4] at K1
      refine r_iconst dX11_isDigit_16 (by decide) ?_
      exact K1
    · rw [if_neg q4] at K1
      refine r_iconst dX11_isDigit_12 (by decide) ?_
      refine r_goto (tgt := 17) dX11_isDigit_13 rfl ?_
      exact K1
theorem vn_isSign {e : Nat} {M : jM} {Q : Option jV → jM → Prop} {c : Int} (he : 1 ≤ e) (hS : Shp M)
  (h : Q (some (vI (if c = (61 : Int) then (1 : Int) else (if c = (60 : Int) then (1 : Int) else (if c ≠ (62 : Int) then (0 : Int) else (1 : Int)))))) M) :
  Call (e + 1) mX11_isSign [vI c] M Q := by
  show Run (e + 1) mX11_isSign 0 [some (vI c)] [] M Q
  refine r_iload_n dX11_isSign_0 rfl ?_
  refine r_bipush dX11_isSign_1 (by decide) ?_
  have K1 : Run (e + 1) mX11_isSign 23 [some (vI c)] [vI (if c = (61 : Int) then (1 : Int) else (if c = (60 : Int) then (1 : Int) else (if c ≠ (62 : Int) then (0 : Int) else (1 : Int))))] M Q := by
    exact r_zret dX11_isSign_23 rfl (by (repeat' split) <;> first | exact Or.inl rfl | exact Or.inr rfl) h
  refine r_icmp_eq dX11_isSign_3 rfl (fun q2 => ?_) (fun q2 => ?_)
  · rw [if_pos q2] at K1
    refine r_iconst dX11_isSign_18 (by decide) ?_
    refine r_goto (tgt := 23) dX11_isSign_19 rfl ?_
    exact K1
  · rw [if_neg q2] at K1
    refine r_iload_n dX11_isSign_6 rfl ?_
    refine r_bipush dX11_isSign_7 (by decide) ?_
    refine r_icmp_eq dX11_isSign_9 rfl (fun q4 => ?_) (fun q4 => ?_)
    · rw [if_pos q4] at K1
      refine r_iconst dX11_isSign_18 (by decide) ?_
      refine r_goto (tgt := 23) dX11_isSign_19 rfl ?_
      exact K1
    · rw [if_neg q4] at K1
      refine r_iload_n dX11_isSign_12 rfl ?_
      refine r_bipush dX11_isSign_13 (by decide) ?_
      refine r_icmp_ne dX11_isSign_15 rfl (fun q6 => ?_) (fun q6 => ?_)
      · rw [if_pos q6] at K1
        refine r_iconst dX11_isSign_22 (by decide) ?_
        exact K1
      · rw [if_neg q6] at K1
        refine r_iconst dX11_isSign_18 (by decide) ?_
        refine r_goto (tgt := 23) dX11_isSign_19 rfl ?_
        exact K1
theorem vn_letterOf {e : Nat} {M : jM} {Q : Option jV → jM → Prop} {c : Int} (he : 1 ≤ e) (hS : Shp M)
  (h : Q (some (vI (if c ≠ (115 : Int) then (if c ≠ (107 : Int) then (if c ≠ (97 : Int) then (if c ≠ (100 : Int) then (if c ≠ (119 : Int) then (if c ≠ (104 : Int) then (-1 : Int) else (5 : Int)) else (4 : Int)) else (3 : Int)) else (2 : Int)) else (1 : Int)) else (0 : Int)))) M) :
  Call (e + 1) mX11_letterOf [vI c] M Q := by
  show Run (e + 1) mX11_letterOf 0 [some (vI c)] [] M Q
  refine r_iload_n dX11_letterOf_0 rfl ?_
  refine r_bipush dX11_letterOf_1 (by decide) ?_
  have K1 : Run (e + 1) mX11_letterOf 61 [some (vI c)] [vI (if c ≠ (115 : Int) then (if c ≠ (107 : Int) then (if c ≠ (97 : Int) then (if c ≠ (100 : Int) then (if c ≠ (119 : Int) then (if c ≠ (104 : Int) then (-1 : Int) else (5 : Int)) else (4 : Int)) else (3 : Int)) else (2 : Int)) else (1 : Int)) else (0 : Int))] M Q := by
    exact r_iret dX11_letterOf_61 rfl h
  refine r_icmp_ne dX11_letterOf_3 rfl (fun q2 => ?_) (fun q2 => ?_)
  · rw [if_pos q2] at K1
    refine r_iload_n dX11_letterOf_10 rfl ?_
    refine r_bipush dX11_letterOf_11 (by decide) ?_
    refine r_icmp_ne dX11_letterOf_13 rfl (fun q4 => ?_) (fun q4 => ?_)
    · rw [if_pos q4] at K1
      refine r_iload_n dX11_letterOf_20 rfl ?_
      refine r_bipush dX11_letterOf_21 (by decide) ?_
      refine r_icmp_ne dX11_letterOf_23 rfl (fun q6 => ?_) (fun q6 => ?_)
      · rw [if_pos q6] at K1
        refine r_iload_n dX11_letterOf_30 rfl ?_
        refine r_bipush dX11_letterOf_31 (by decide) ?_
        refine r_icmp_ne dX11_letterOf_33 rfl (fun q8 => ?_) (fun q8 => ?_)
        · rw [if_pos q8] at K1
          refine r_iload_n dX11_letterOf_40 rfl ?_
          refine r_bipush dX11_letterOf_41 (by decide) ?_
          refine r_icmp_ne dX11_letterOf_43 rfl (fun q10 => ?_) (fun q10 => ?_)
          · rw [if_pos q10] at K1
            refine r_iload_n dX11_letterOf_50 rfl ?_
            refine r_bipush dX11_letterOf_51 (by decide) ?_
            refine r_icmp_ne dX11_letterOf_53 rfl (fun q12 => ?_) (fun q12 => ?_)
            · rw [if_pos q12] at K1
              refine r_iconst dX11_letterOf_60 (by decide) ?_
              exact K1
            · rw [if_neg q12] at K1
              refine r_iconst dX11_letterOf_56 (by decide) ?_
              refine r_goto (tgt := 61) dX11_letterOf_57 rfl ?_
              exact K1
          · rw [if_neg q10] at K1
            refine r_iconst dX11_letterOf_46 (by decide) ?_
            refine r_goto (tgt := 61) dX11_letterOf_47 rfl ?_
            exact K1
        · rw [if_neg q8] at K1
          refine r_iconst dX11_letterOf_36 (by decide) ?_
          refine r_goto (tgt := 61) dX11_letterOf_37 rfl ?_
          exact K1
      · rw [if_neg q6] at K1
        refine r_iconst dX11_letterOf_26 (by decide) ?_
        refine r_goto (tgt := 61) dX11_letterOf_27 rfl ?_
        exact K1
    · rw [if_neg q4] at K1
      refine r_iconst dX11_letterOf_16 (by decide) ?_
      refine r_goto (tgt := 61) dX11_letterOf_17 rfl ?_
      exact K1
  · rw [if_neg q2] at K1
    refine r_iconst dX11_letterOf_6 (by decide) ?_
    refine r_goto (tgt := 61) dX11_letterOf_7 rfl ?_
    exact K1
theorem vn_here {e : Nat} {M : jM} {Q : Option jV → jM → Prop}  (he : 1 ≤ e) (hS : Shp M)
  (h : (((iv M 468 2) ≤ (iv M 468 3)) → (Q (some (vI (-1 : Int))) M)) ∧ (¬ ((iv M 468 2) ≤ (iv M 468 3)) → ((0 ≤ (iv M 468 3) ∧ (iv M 468 3) < 240) ∧ (Q (some (vI (iv M 469 (iv M 468 3).toNat))) M)))) :
  Call (e + 1) mX11_here [vR 468] M Q := by
  show Run (e + 1) mX11_here 0 [some (vR 468)] [] M Q
  refine r_aload_n dX11_here_0 rfl ?_
  refine r_get0 dX11_here_1 kF11_119 (sh_o hS rfl (by decide)) ?_
  refine r_aload_n dX11_here_4 rfl ?_
  refine r_get0 dX11_here_5 kF11_116 (sh_o hS rfl (by decide)) ?_
  refine r_icmp_ge dX11_here_8 rfl (fun c1 => ?_) (fun c1 => ?_)
  · refine r_iconst dX11_here_23 (by decide) ?_
    exact r_iret dX11_here_24 rfl (h.1 c1)
  · refine r_aload_n dX11_here_11 rfl ?_
    refine r_getS (v := 469) dX11_here_12 kF11_9 (sh_o hS rfl (by decide)) (sh_f hS rfl (by decide)) ?_
    refine r_aload_n dX11_here_15 rfl ?_
    refine r_get0 dX11_here_16 kF11_119 (sh_o hS rfl (by decide)) ?_
    refine r_iaload dX11_here_19 (jro_ix (sh_r hS rfl (by decide)) (h.2 c1).1) ?_
    refine r_goto (tgt := 24) dX11_here_20 rfl ?_
    exact r_iret dX11_here_24 rfl (h.2 c1).2
theorem vn_byteOf {e : Nat} {M : jM} {Q : Option jV → jM → Prop} {a : Int} {b : Int} {c : Int} {d : Int} {x : Int} {k : Int} (he : 1 ≤ e) (hS : Shp M)
  (h : Q (some (vI (jand (jshr (if (4 : Int) ≤ k then (if (8 : Int) ≤ k then (if (12 : Int) ≤ k then (if (16 : Int) ≤ k then x else d) else c) else b) else a) (w32 ((24 : Int) - (w32 ((8 : Int) * (jrem k (4 : Int))))))) (255 : Int)))) M) :
  Call (e + 1) mX11_byteOf [vI a, vI b, vI c, vI d, vI x, vI k] M Q := by
  show Run (e + 1) mX11_byteOf 0 [some (vI a), some (vI b), some (vI c), some (vI d), some (vI x), some (vI k), none] [] M Q
  refine r_iload dX11_byteOf_0 rfl ?_
  refine r_iconst dX11_byteOf_2 (by decide) ?_
  have K1 : Run (e + 1) mX11_byteOf 45 [some (vI a), some (vI b), some (vI c), some (vI d), some (vI x), some (vI k), none] [vI (if (4 : Int) ≤ k then (if (8 : Int) ≤ k then (if (12 : Int) ≤ k then (if (16 : Int) ≤ k then x else d) else c) else b) else a)] M Q := by
    refine r_istore (ls2 := [some (vI a), some (vI b), some (vI c), some (vI d), some (vI x), some (vI k), some (vI (if (4 : Int) ≤ k then (if (8 : Int) ≤ k then (if (12 : Int) ≤ k then (if (16 : Int) ≤ k then x else d) else c) else b) else a))]) dX11_byteOf_45 (Nat.le_of_ble_eq_true rfl) rfl ?_
    refine r_iload dX11_byteOf_47 rfl ?_
    refine r_bipush dX11_byteOf_49 (by decide) ?_
    refine r_bipush dX11_byteOf_51 (by decide) ?_
    refine r_iload dX11_byteOf_53 rfl ?_
    refine r_iconst dX11_byteOf_55 (by decide) ?_
    refine r_irem dX11_byteOf_56 (by decide) ?_
    refine r_imul dX11_byteOf_57 ?_
    refine r_isub dX11_byteOf_58 ?_
    refine r_ishr dX11_byteOf_59 ?_
    refine r_sipush dX11_byteOf_60 (by decide) ?_
    refine r_iand dX11_byteOf_63 ?_
    exact r_iret dX11_byteOf_64 rfl h
  refine r_icmp_ge dX11_byteOf_3 rfl (fun q2 => ?_) (fun q2 => ?_)
  · rw [if_pos q2] at K1
    refine r_iload dX11_byteOf_10 rfl ?_
    refine r_bipush dX11_byteOf_12 (by decide) ?_
    refine r_icmp_ge dX11_byteOf_14 rfl (fun q4 => ?_) (fun q4 => ?_)
    · rw [if_pos q4] at K1
      refine r_iload dX11_byteOf_21 rfl ?_
      refine r_bipush dX11_byteOf_23 (by decide) ?_
      refine r_icmp_ge dX11_byteOf_25 rfl (fun q6 => ?_) (fun q6 => ?_)
      · rw [if_pos q6] at K1
        refine r_iload dX11_byteOf_32 rfl ?_
        refine r_bipush dX11_byteOf_34 (by decide) ?_
        refine r_icmp_ge dX11_byteOf_36 rfl (fun q8 => ?_) (fun q8 => ?_)
        · rw [if_pos q8] at K1
          refine r_iload dX11_byteOf_43 rfl ?_
          exact K1
        · rw [if_neg q8] at K1
          refine r_iload_n dX11_byteOf_39 rfl ?_
          refine r_goto (tgt := 45) dX11_byteOf_40 rfl ?_
          exact K1
      · rw [if_neg q6] at K1
        refine r_iload_n dX11_byteOf_28 rfl ?_
        refine r_goto (tgt := 45) dX11_byteOf_29 rfl ?_
        exact K1
    · rw [if_neg q4] at K1
      refine r_iload_n dX11_byteOf_17 rfl ?_
      refine r_goto (tgt := 45) dX11_byteOf_18 rfl ?_
      exact K1
  · rw [if_neg q2] at K1
    refine r_iload_n dX11_byteOf_6 rfl ?_
    refine r_goto (tgt := 45) dX11_byteOf_7 rfl ?_
    exact K1
theorem vn_thrown {e : Nat} {M : jM} {Q : Option jV → jM → Prop}  (he : 1 ≤ e) (hS : Shp M)
  (h : Q (some (vI (iv M 468 0))) M) :
  Call (e + 1) mX11_thrown [vR 468] M Q := by
  show Run (e + 1) mX11_thrown 0 [some (vR 468)] [] M Q
  refine r_aload_n dX11_thrown_0 rfl ?_
  refine r_get0 dX11_thrown_1 kF11_109 (sh_o hS rfl (by decide)) ?_
  exact r_iret dX11_thrown_4 rfl h
