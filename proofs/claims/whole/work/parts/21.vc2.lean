theorem vc_rounded {e : Nat} {M : jM} {Q : Option jV → jM → Prop} {x : Int}  
  (h : Run (e + 1) mX10_rounded 2 [some (vL x), none, some (vI (0 : Int)), none, none, none, none, none, none, none, none, none] [] M Q) :
  Call (e + 1) mX10_rounded [vL x] M Q := by
  show Run (e + 1) mX10_rounded 0 [some (vL x), none, none, none, none, none, none, none, none, none, none, none] [] M Q
  refine r_iconst dX10_rounded_0 (by decide) ?_
  refine r_istore_n (ls2 := [some (vL x), none, some (vI (0 : Int)), none, none, none, none, none, none, none, none, none]) dX10_rounded_1 (Nat.le_of_ble_eq_true rfl) rfl ?_
  exact h
theorem vc_rounded_2 {e : Nat} {M : jM} {Q : Option jV → jM → Prop} {x : Int} {c : Int}   
  (h : (((40 : Int) ≤ c) → (Run (e + 1) mX10_rounded 24 [some (vL x), none, some (vI c), none, none, none, none, none, none, none, none, none] [] M Q)) ∧ (¬ ((40 : Int) ≤ c) → ((((jcmp (jshrL x c) (16777216 : Int)) < (0 : Int)) → (Run (e + 1) mX10_rounded 24 [some (vL x), none, some (vI c), none, none, none, none, none, none, none, none, none] [] M Q)) ∧ (¬ ((jcmp (jshrL x c) (16777216 : Int)) < (0 : Int)) → (Run (e + 1) mX10_rounded 2 [some (vL x), none, some (vI (w32 (c + (1 : Int)))), none, none, none, none, none, none, none, none, none] [] M Q))))) :
  Run (e + 1) mX10_rounded 2 [some (vL x), none, some (vI c), none, none, none, none, none, none, none, none, none] [] M Q := by
  refine r_iload_n dX10_rounded_2 rfl ?_
  refine r_bipush dX10_rounded_3 (by decide) ?_
  refine r_icmp_ge dX10_rounded_5 rfl (fun c1 => ?_) (fun c1 => ?_)
  · exact (h.1 c1)
  · refine r_lload_n dX10_rounded_8 rfl ?_
    refine r_iload_n dX10_rounded_9 rfl ?_
    refine r_lshr dX10_rounded_10 ?_
    refine r_ldc2 dX10_rounded_11 kL10_437 ?_
    refine r_lcmp dX10_rounded_14 ?_
    refine r_if_lt dX10_rounded_15 rfl (fun c2 => ?_) (fun c2 => ?_)
    · exact ((h.2 c1).1 c2)
    · refine r_iinc (ls2 := [some (vL x), none, some (vI (w32 (c + (1 : Int)))), none, none, none, none, none, none, none, none, none]) dX10_rounded_18 rfl rfl ?_
      refine r_goto (tgt := 2) dX10_rounded_21 rfl ?_
      exact ((h.2 c1).2 c2)
theorem vc_rounded_24 {e : Nat} {M : jM} {Q : Option jV → jM → Prop} {x : Int} {c : Int}   
  (h : ((c ≠ (0 : Int)) → (Q (some (vL (jshlL (if (if (0 : Int) < (jcmp (jandL x (w64 ((jshlL (1 : Int) c) - (1 : Int)))) (jshrL (jshlL (1 : Int) c) (1 : Int))) then (1 : Int) else (if (jcmp (jandL x (w64 ((jshlL (1 : Int) c) - (1 : Int)))) (jshrL (jshlL (1 : Int) c) (1 : Int))) ≠ (0 : Int) then (0 : Int) else (if (jcmp (jandL (jshrL x c) (1 : Int)) (1 : Int)) ≠ (0 : Int) then (0 : Int) else (1 : Int)))) = (0 : Int) then jshrL x c else w64 ((jshrL x c) + (1 : Int))) c))) M)) ∧ (¬ (c ≠ (0 : Int)) → (Q (some (vL x)) M))) :
  Run (e + 1) mX10_rounded 24 [some (vL x), none, some (vI c), none, none, none, none, none, none, none, none, none] [] M Q := by
  refine r_iload_n dX10_rounded_24 rfl ?_
  refine r_if_ne dX10_rounded_25 rfl (fun c3 => ?_) (fun c3 => ?_)
  · refine r_lconst1 dX10_rounded_30 ?_
    refine r_iload_n dX10_rounded_31 rfl ?_
    refine r_lshl dX10_rounded_32 ?_
    refine r_lstore_n (ls2 := [some (vL x), none, some (vI c), some (vL (jshlL (1 : Int) c)), none, none, none, none, none, none, none, none]) dX10_rounded_33 (Nat.le_of_ble_eq_true rfl) rfl ?_
    refine r_lload_n dX10_rounded_34 rfl ?_
    refine r_iload_n dX10_rounded_35 rfl ?_
    refine r_lshr dX10_rounded_36 ?_
    refine r_lstore (ls2 := [some (vL x), none, some (vI c), some (vL (jshlL (1 : Int) c)), none, some (vL (jshrL x c)), none, none, none, none, none, none]) dX10_rounded_37 (Nat.le_of_ble_eq_true rfl) rfl ?_
    refine r_lload_n dX10_rounded_39 rfl ?_
    refine r_lload_n dX10_rounded_40 rfl ?_
    refine r_lconst1 dX10_rounded_41 ?_
    refine r_lsub dX10_rounded_42 ?_
    refine r_land dX10_rounded_43 ?_
    refine r_lstore (ls2 := [some (vL x), none, some (vI c), some (vL (jshlL (1 : Int) c)), none, some (vL (jshrL x c)), none, some (vL (jandL x (w64 ((jshlL (1 : Int) c) - (1 : Int))))), none, none, none, none]) dX10_rounded_44 (Nat.le_of_ble_eq_true rfl) rfl ?_
    refine r_lload_n dX10_rounded_46 rfl ?_
    refine r_iconst dX10_rounded_47 (by decide) ?_
    refine r_lshr dX10_rounded_48 ?_
    refine r_lstore (ls2 := [some (vL x), none, some (vI c), some (vL (jshlL (1 : Int) c)), none, some (vL (jshrL x c)), none, some (vL (jandL x (w64 ((jshlL (1 : Int) c) - (1 : Int))))), none, some (vL (jshrL (jshlL (1 : Int) c) (1 : Int))), none, none]) dX10_rounded_49 (Nat.le_of_ble_eq_true rfl) rfl ?_
    refine r_lload dX10_rounded_51 rfl ?_
    refine r_lload dX10_rounded_53 rfl ?_
    refine r_lcmp dX10_rounded_55 ?_
    have K4 : Run (e + 1) mX10_rounded 81 [some (vL x), none, some (vI c), some (vL (jshlL (1 : Int) c)), none, some (vL (jshrL x c)), none, some (vL (jandL x (w64 ((jshlL (1 : Int) c) - (1 : Int))))), none, some (vL (jshrL (jshlL (1 : Int) c) (1 : Int))), none, none] [vI (if (0 : Int) < (jcmp (jandL x (w64 ((jshlL (1 : Int) c) - (1 : Int)))) (jshrL (jshlL (1 : Int) c) (1 : Int))) then (1 : Int) else (if (jcmp (jandL x (w64 ((jshlL (1 : Int) c) - (1 : Int)))) (jshrL (jshlL (1 : Int) c) (1 : Int))) ≠ (0 : Int) then (0 : Int) else (if (jcmp (jandL (jshrL x c) (1 : Int)) (1 : Int)) ≠ (0 : Int) then (0 : Int) else (1 : Int))))] M Q := by
      refine r_istore (ls2 := [some (vL x), none, some (vI c), some (vL (jshlL (1 : Int) c)), none, some (vL (jshrL x c)), none, some (vL (jandL x (w64 ((jshlL (1 : Int) c) - (1 : Int))))), none, some (vL (jshrL (jshlL (1 : Int) c) (1 : Int))), none, some (vI (if (0 : Int) < (jcmp (jandL x (w64 ((jshlL (1 : Int) c) - (1 : Int)))) (jshrL (jshlL (1 : Int) c) (1 : Int))) then (1 : Int) else (if (jcmp (jandL x (w64 ((jshlL (1 : Int) c) - (1 : Int)))) (jshrL (jshlL (1 : Int) c) (1 : Int))) ≠ (0 : Int) then (0 : Int) else (if (jcmp (jandL (jshrL x c) (1 : Int)) (1 : Int)) ≠ (0 : Int) then (0 : Int) else (1 : Int)))))]) dX10_rounded_81 (Nat.le_of_ble_eq_true rfl) rfl ?_
      refine r_iload dX10_rounded_83 rfl ?_
      have K5 : Run (e + 1) mX10_rounded 97 [some (vL x), none, some (vI c), some (vL (jshlL (1 : Int) c)), none, some (vL (jshrL x c)), none, some (vL (jandL x (w64 ((jshlL (1 : Int) c) - (1 : Int))))), none, some (vL (jshrL (jshlL (1 : Int) c) (1 : Int))), none, some (vI (if (0 : Int) < (jcmp (jandL x (w64 ((jshlL (1 : Int) c) - (1 : Int)))) (jshrL (jshlL (1 : Int) c) (1 : Int))) then (1 : Int) else (if (jcmp (jandL x (w64 ((jshlL (1 : Int) c) - (1 : Int)))) (jshrL (jshlL (1 : Int) c) (1 : Int))) ≠ (0 : Int) then (0 : Int) else (if (jcmp (jandL (jshrL x c) (1 : Int)) (1 : Int)) ≠ (0 : Int) then (0 : Int) else (1 : Int)))))] [vL (if (if (0 : Int) < (jcmp (jandL x (w64 ((jshlL (1 : Int) c) - (1 : Int)))) (jshrL (jshlL (1 : Int) c) (1 : Int))) then (1 : Int) else (if (jcmp (jandL x (w64 ((jshlL (1 : Int) c) - (1 : Int)))) (jshrL (jshlL (1 : Int) c) (1 : Int))) ≠ (0 : Int) then (0 : Int) else (if (jcmp (jandL (jshrL x c) (1 : Int)) (1 : Int)) ≠ (0 : Int) then (0 : Int) else (1 : Int)))) = (0 : Int) then jshrL x c else w64 ((jshrL x c) + (1 : Int)))] M Q := by
        refine r_iload_n dX10_rounded_97 rfl ?_
        refine r_lshl dX10_rounded_98 ?_
        exact r_lret dX10_rounded_99 rfl (h.1 c3)
      refine r_if_eq dX10_rounded_85 rfl (fun q6 => ?_) (fun q6 => ?_)
      · rw [if_pos q6] at K5
        refine r_lload dX10_rounded_95 rfl ?_
        exact K5
      · rw [if_neg q6] at K5
        refine r_lload dX10_rounded_88 rfl ?_
        refine r_lconst1 dX10_rounded_90 ?_
        refine r_ladd dX10_rounded_91 ?_
        refine r_goto (tgt := 97) dX10_rounded_92 rfl ?_
        exact K5
    refine r_if_gt dX10_rounded_56 rfl (fun q8 => ?_) (fun q8 => ?_)
    · rw [if_pos q8] at K4
      refine r_iconst dX10_rounded_76 (by decide) ?_
      refine r_goto (tgt := 81) dX10_rounded_77 rfl ?_
      exact K4
    · rw [if_neg q8] at K4
      refine r_lload dX10_rounded_59 rfl ?_
      refine r_lload dX10_rounded_61 rfl ?_
      refine r_lcmp dX10_rounded_63 ?_
      refine r_if_ne dX10_rounded_64 rfl (fun q10 => ?_) (fun q10 => ?_)
      · rw [if_pos q10] at K4
        refine r_iconst dX10_rounded_80 (by decide) ?_
        exact K4
      · rw [if_neg q10] at K4
        refine r_lload dX10_rounded_67 rfl ?_
        refine r_lconst1 dX10_rounded_69 ?_
        refine r_land dX10_rounded_70 ?_
        refine r_lconst1 dX10_rounded_71 ?_
        refine r_lcmp dX10_rounded_72 ?_
        refine r_if_ne dX10_rounded_73 rfl (fun q12 => ?_) (fun q12 => ?_)
        · rw [if_pos q12] at K4
          refine r_iconst dX10_rounded_80 (by decide) ?_
          exact K4
        · rw [if_neg q12] at K4
          refine r_iconst dX10_rounded_76 (by decide) ?_
          refine r_goto (tgt := 81) dX10_rounded_77 rfl ?_
          exact K4
  · refine r_lload_n dX10_rounded_28 rfl ?_
    exact r_lret dX10_rounded_29 rfl (h.2 c3)
theorem vc_heftOf_5 {e : Nat} {M : jM} {Q : Option jV → jM → Prop} {x : Int} {p : Int} {s : Int}   
  (h : ((s ≤ (0 : Int)) → (Q (some (vI p)) M)) ∧ (¬ (s ≤ (0 : Int)) → ((((jcmp (jshrL x (w32 (p + s))) (0 : Int)) ≤ (0 : Int)) → (Run (e + 1) mX10_heftOf 5 [some (vL x), none, some (vI p), some (vI (jshr s (1 : Int)))] [] M Q)) ∧ (¬ ((jcmp (jshrL x (w32 (p + s))) (0 : Int)) ≤ (0 : Int)) → (Run (e + 1) mX10_heftOf 5 [some (vL x), none, some (vI (w32 (p + s))), some (vI (jshr s (1 : Int)))] [] M Q))))) :
  Run (e + 1) mX10_heftOf 5 [some (vL x), none, some (vI p), some (vI s)] [] M Q := by
  refine r_iload_n dX10_heftOf_5 rfl ?_
  refine r_if_le dX10_heftOf_6 rfl (fun c1 => ?_) (fun c1 => ?_)
  · refine r_iload_n dX10_heftOf_30 rfl ?_
    exact r_iret dX10_heftOf_31 rfl (h.1 c1)
  · refine r_lload_n dX10_heftOf_9 rfl ?_
    refine r_iload_n dX10_heftOf_10 rfl ?_
    refine r_iload_n dX10_heftOf_11 rfl ?_
    refine r_iadd dX10_heftOf_12 ?_
    refine r_lshr dX10_heftOf_13 ?_
    refine r_lconst0 dX10_heftOf_14 ?_
    refine r_lcmp dX10_heftOf_15 ?_
    refine r_if_le dX10_heftOf_16 rfl (fun c2 => ?_) (fun c2 => ?_)
    · refine r_iload_n dX10_heftOf_23 rfl ?_
      refine r_iconst dX10_heftOf_24 (by decide) ?_
      refine r_ishr dX10_heftOf_25 ?_
      refine r_istore_n (ls2 := [some (vL x), none, some (vI p), some (vI (jshr s (1 : Int)))]) dX10_heftOf_26 (Nat.le_of_ble_eq_true rfl) rfl ?_
      refine r_goto (tgt := 5) dX10_heftOf_27 rfl ?_
      exact ((h.2 c1).1 c2)
    · refine r_iload_n dX10_heftOf_19 rfl ?_
      refine r_iload_n dX10_heftOf_20 rfl ?_
      refine r_iadd dX10_heftOf_21 ?_
      refine r_istore_n (ls2 := [some (vL x), none, some (vI (w32 (p + s))), some (vI s)]) dX10_heftOf_22 (Nat.le_of_ble_eq_true rfl) rfl ?_
      refine r_iload_n dX10_heftOf_23 rfl ?_
      refine r_iconst dX10_heftOf_24 (by decide) ?_
      refine r_ishr dX10_heftOf_25 ?_
      refine r_istore_n (ls2 := [some (vL x), none, some (vI (w32 (p + s))), some (vI (jshr s (1 : Int)))]) dX10_heftOf_26 (Nat.le_of_ble_eq_true rfl) rfl ?_
      refine r_goto (tgt := 5) dX10_heftOf_27 rfl ?_
      exact ((h.2 c1).2 c2)
theorem vc_signsOf {e : Nat} {M : jM} {Q : Option jV → jM → Prop} {x : Int}  
  (h : Run (e + 1) mX10_signsOf 5 [some (vI x), some (vI (0 : Int)), some (vI (24 : Int))] [] M Q) :
  Call (e + 1) mX10_signsOf [vI x] M Q := by
  show Run (e + 1) mX10_signsOf 0 [some (vI x), none, none] [] M Q
  refine r_iconst dX10_signsOf_0 (by decide) ?_
  refine r_istore_n (ls2 := [some (vI x), some (vI (0 : Int)), none]) dX10_signsOf_1 (Nat.le_of_ble_eq_true rfl) rfl ?_
  refine r_bipush dX10_signsOf_2 (by decide) ?_
  refine r_istore_n (ls2 := [some (vI x), some (vI (0 : Int)), some (vI (24 : Int))]) dX10_signsOf_4 (Nat.le_of_ble_eq_true rfl) rfl ?_
  exact h
theorem vc_signsOf_5 {e : Nat} {M : jM} {Q : Option jV → jM → Prop} {x : Int} {n : Int} {s : Int}   
  (h : ((s < (0 : Int)) → (Q (some (vI n)) M)) ∧ (¬ (s < (0 : Int)) → (Run (e + 1) mX10_signsOf 5 [some (vI x), some (vI (w32 (n + (if (jand (jushr x s) (255 : Int)) = (0 : Int) then (0 : Int) else (1 : Int))))), some (vI (w32 (s + (-8 : Int))))] [] M Q))) :
  Run (e + 1) mX10_signsOf 5 [some (vI x), some (vI n), some (vI s)] [] M Q := by
  refine r_iload_n dX10_signsOf_5 rfl ?_
  refine r_if_lt dX10_signsOf_6 rfl (fun c1 => ?_) (fun c1 => ?_)
  · refine r_iload_n dX10_signsOf_33 rfl ?_
    exact r_iret dX10_signsOf_34 rfl (h.1 c1)
  · refine r_iload_n dX10_signsOf_9 rfl ?_
    refine r_iload_n dX10_signsOf_10 rfl ?_
    refine r_iload_n dX10_signsOf_11 rfl ?_
    refine r_iushr dX10_signsOf_12 ?_
    refine r_sipush dX10_signsOf_13 (by decide) ?_
    refine r_iand dX10_signsOf_16 ?_
    have K2 : Run (e + 1) mX10_signsOf 25 [some (vI x), some (vI n), some (vI s)] [vI (if (jand (jushr x s) (255 : Int)) = (0 : Int) then (0 : Int) else (1 : Int)), vI n] M Q := by
      refine r_iadd dX10_signsOf_25 ?_
      refine r_istore_n (ls2 := [some (vI x), some (vI (w32 (n + (if (jand (jushr x s) (255 : Int)) = (0 : Int) then (0 : Int) else (1 : Int))))), some (vI s)]) dX10_signsOf_26 (Nat.le_of_ble_eq_true rfl) rfl ?_
      refine r_iinc (ls2 := [some (vI x), some (vI (w32 (n + (if (jand (jushr x s) (255 : Int)) = (0 : Int) then (0 : Int) else (1 : Int))))), some (vI (w32 (s + (-8 : Int))))]) dX10_signsOf_27 rfl rfl ?_
      refine r_goto (tgt := 5) dX10_signsOf_30 rfl ?_
      exact (h.2 c1)
    refine r_if_eq dX10_signsOf_17 rfl (fun q3 => ?_) (fun q3 => ?_)
    · rw [if_pos q3] at K2
      refine r_iconst dX10_signsOf_24 (by decide) ?_
      exact K2
    · rw [if_neg q3] at K2
      refine r_iconst dX10_signsOf_20 (by decide) ?_
      refine r_goto (tgt := 25) dX10_signsOf_21 rfl ?_
      exact K2
theorem vc_copyRow {e : Nat} {M : jM} {Q : Option jV → jM → Prop} {f : Nat} {t : Nat} {n k : Nat} (hf : jro M 20 n f) (ht : jro M 20 k t) (h6 : 6 ≤ t) 
  (h : Run (e + 1) mX10_copyRow 11 [some (vR f), some (vR t), some (vI (0 : Int))] [] M Q) :
  Call (e + 1) mX10_copyRow [vR f, vR t] M Q := by
  show Run (e + 1) mX10_copyRow 0 [some (vR f), some (vR t), none] [] M Q
  refine r_aload_n dX10_copyRow_0 rfl ?_
  refine r_ifnull dX10_copyRow_1 rfl (fun q => absurd q (by have := hf.1; omega)) (fun _ => ?_)
  refine r_aload_n dX10_copyRow_4 rfl ?_
  refine r_ifnonnull dX10_copyRow_5 rfl (fun _ => ?_) (fun q => absurd (by have := ht.1; omega) q)
  refine r_iconst dX10_copyRow_9 (by decide) ?_
  refine r_istore_n (ls2 := [some (vR f), some (vR t), some (vI (0 : Int))]) dX10_copyRow_10 (Nat.le_of_ble_eq_true rfl) rfl ?_
  exact h
theorem vc_copyRow_11 {e : Nat} {M : jM} {Q : Option jV → jM → Prop} {f : Nat} {t : Nat} {i : Int}  {n k : Nat} (hf : jro M 20 n f) (ht : jro M 20 k t) (h6 : 6 ≤ t) 
  (h : (((n : Int) ≤ i) → (Q none M)) ∧ (¬ ((n : Int) ≤ i) → ((((k : Int) ≤ i) → (Q none M)) ∧ (¬ ((k : Int) ≤ i) → ((0 ≤ i ∧ i < n) ∧ ((0 ≤ i ∧ i < k) ∧ (Run (e + 1) mX10_copyRow 11 [some (vR f), some (vR t), some (vI (w32 (i + (1 : Int))))] [] (si M t (i).toNat (iv M f (i).toNat)) Q))))))) :
  Run (e + 1) mX10_copyRow 11 [some (vR f), some (vR t), some (vI i)] [] M Q := by
  refine r_iload_n dX10_copyRow_11 rfl ?_
  refine r_aload_n dX10_copyRow_12 rfl ?_
  refine r_lenS dX10_copyRow_13 hf (by decide) ?_
  refine r_icmp_ge dX10_copyRow_14 rfl (fun c1 => ?_) (fun c1 => ?_)
  · exact r_vret dX10_copyRow_35 rfl (h.1 c1)
  · refine r_iload_n dX10_copyRow_17 rfl ?_
    refine r_aload_n dX10_copyRow_18 rfl ?_
    refine r_lenS dX10_copyRow_19 ht (by decide) ?_
    refine r_icmp_ge dX10_copyRow_20 rfl (fun c2 => ?_) (fun c2 => ?_)
    · exact r_vret dX10_copyRow_35 rfl ((h.2 c1).1 c2)
    · refine r_aload_n dX10_copyRow_23 rfl ?_
      refine r_iload_n dX10_copyRow_24 rfl ?_
      refine r_aload_n dX10_copyRow_25 rfl ?_
      refine r_iload_n dX10_copyRow_26 rfl ?_
      refine r_iaload dX10_copyRow_27 (jro_ix hf ((h.2 c1).2 c2).1) ?_
      refine r_iastore dX10_copyRow_28 ⟨jro_ix ht ((h.2 c1).2 c2).2.1, (h6)⟩ ?_
      refine r_iinc (ls2 := [some (vR f), some (vR t), some (vI (w32 (i + (1 : Int))))]) dX10_copyRow_29 rfl rfl ?_
      refine r_goto (tgt := 11) dX10_copyRow_32 rfl ?_
      exact ((h.2 c1).2 c2).2.2
theorem vc_stateAt {e : Nat} {M : jM} {Q : Option jV → jM → Prop} {r : Nat} {i : Int} {n : Nat} (hr : jro M 23 n r) 
  (h : ((i < (0 : Int)) → (Q (some (vR 0)) M)) ∧ (¬ (i < (0 : Int)) → ((((n : Int) ≤ i) → (Q (some (vR 0)) M)) ∧ (¬ ((n : Int) ≤ i) → ((0 ≤ i ∧ i < n) ∧ (Q (some (vR (rv M r (i).toNat))) M)))))) :
  Call (e + 1) mX10_stateAt [vR r, vI i] M Q := by
  show Run (e + 1) mX10_stateAt 0 [some (vR r), some (vI i)] [] M Q
  refine r_aload_n dX10_stateAt_0 rfl ?_
  refine r_ifnull dX10_stateAt_1 rfl (fun q => absurd q (by have := hr.1; omega)) (fun _ => ?_)
  refine r_iload_n dX10_stateAt_4 rfl ?_
  refine r_if_lt dX10_stateAt_5 rfl (fun c1 => ?_) (fun c1 => ?_)
  · refine r_null dX10_stateAt_20 ?_
    exact r_aret dX10_stateAt_21 rfl (h.1 c1)
  · refine r_iload_n dX10_stateAt_8 rfl ?_
    refine r_aload_n dX10_stateAt_9 rfl ?_
    refine r_lenS dX10_stateAt_10 hr (by decide) ?_
    refine r_icmp_ge dX10_stateAt_11 rfl (fun c2 => ?_) (fun c2 => ?_)
    · refine r_null dX10_stateAt_20 ?_
      exact r_aret dX10_stateAt_21 rfl ((h.2 c1).1 c2)
    · refine r_aload_n dX10_stateAt_14 rfl ?_
      refine r_iload_n dX10_stateAt_15 rfl ?_
      refine r_aaload dX10_stateAt_16 (Or.inl (jro_ix hr ((h.2 c1).2 c2).1)) ?_
      refine r_goto (tgt := 21) dX10_stateAt_17 rfl ?_
      exact r_aret dX10_stateAt_21 rfl ((h.2 c1).2 c2).2
theorem vc_J6numberOfLeadingZeros {e : Nat} {M : jM} {Q : Option jV → jM → Prop} {x : Int}  
  (h : (((0 : Int) < x) → (((x < (65536 : Int)) → (((x < (256 : Int)) → (((x < (16 : Int)) → (((x < (4 : Int)) → (Q (some (vI (w32 ((31 : Int) - (jushr x (1 : Int)))))) M)) ∧ (¬ (x < (4 : Int)) → (Q (some (vI (w32 ((w32 ((31 : Int) + (-2 : Int))) - (jushr (jushr x (2 : Int)) (1 : Int)))))) M)))) ∧ (¬ (x < (16 : Int)) → ((((jushr x (4 : Int)) < (4 : Int)) → (Q (some (vI (w32 ((w32 ((31 : Int) + (-4 : Int))) - (jushr (jushr x (4 : Int)) (1 : Int)))))) M)) ∧ (¬ ((jushr x (4 : Int)) < (4 : Int)) → (Q (some (vI (w32 ((w32 ((w32 ((31 : Int) + (-4 : Int))) + (-2 : Int))) - (jushr (jushr (jushr x (4 : Int)) (2 : Int)) (1 : Int)))))) M)))))) ∧ (¬ (x < (256 : Int)) → ((((jushr x (8 : Int)) < (16 : Int)) → ((((jushr x (8 : Int)) < (4 : Int)) → (Q (some (vI (w32 ((w32 ((31 : Int) + (-8 : Int))) - (jushr (jushr x (8 : Int)) (1 : Int)))))) M)) ∧ (¬ ((jushr x (8 : Int)) < (4 : Int)) → (Q (some (vI (w32 ((w32 ((w32 ((31 : Int) + (-8 : Int))) + (-2 : Int))) - (jushr (jushr (jushr x (8 : Int)) (2 : Int)) (1 : Int)))))) M)))) ∧ (¬ ((jushr x (8 : Int)) < (16 : Int)) → ((((jushr (jushr x (8 : Int)) (4 : Int)) < (4 : Int)) → (Q (some (vI (w32 ((w32 ((w32 ((31 : Int) + (-8 : Int))) + (-4 : Int))) - (jushr (jushr (jushr x (8 : Int)) (4 : Int)) (1 : Int)))))) M)) ∧ (¬ ((jushr (jushr x (8 : Int)) (4 : Int)) < (4 : Int)) → (Q (some (vI (w32 ((w32 ((w32 ((w32 ((31 : Int) + (-8 : Int))) + (-4 : Int))) + (-2 : Int))) - (jushr (jushr (jushr (jushr x (8 : Int)) (4 : Int)) (2 : Int)) (1 : Int)))))) M)))))))) ∧ (¬ (x < (65536 : Int)) → ((((jushr x (16 : Int)) < (256 : Int)) → ((((jushr x (16 : Int)) < (16 : Int)) → ((((jushr x (16 : Int)) < (4 : Int)) → (Q (some (vI (w32 ((w32 ((31 : Int) + (-16 : Int))) - (jushr (jushr x (16 : Int)) (1 : Int)))))) M)) ∧ (¬ ((jushr x (16 : Int)) < (4 : Int)) → (Q (some (vI (w32 ((w32 ((w32 ((31 : Int) + (-16 : Int))) + (-2 : Int))) - (jushr (jushr (jushr x (16 : Int)) (2 : Int)) (1 : Int)))))) M)))) ∧ (¬ ((jushr x (16 : Int)) < (16 : Int)) → ((((jushr (jushr x (16 : Int)) (4 : Int)) < (4 : Int)) → (Q (some (vI (w32 ((w32 ((w32 ((31 : Int) + (-16 : Int))) + (-4 : Int))) - (jushr (jushr (jushr x (16 : Int)) (4 : Int)) (1 : Int)))))) M)) ∧ (¬ ((jushr (jushr x (16 : Int)) (4 : Int)) < (4 : Int)) → (Q (some (vI (w32 ((w32 ((w32 ((w32 ((31 : Int) + (-16 : Int))) + (-4 : Int))) + (-2 : Int))) - (jushr (jushr (jushr (jushr x (16 : Int)) (4 : Int)) (2 : Int)) (1 : Int)))))) M)))))) ∧ (¬ ((jushr x (16 : Int)) < (256 : Int)) → ((((jushr (jushr x (16 : Int)) (8 : Int)) < (16 : Int)) → ((((jushr (jushr x (16 : Int)) (8 : Int)) < (4 : Int)) → (Q (some (vI (w32 ((w32 ((w32 ((31 : Int) + (-16 : Int))) + (-8 : Int))) - (jushr (jushr (jushr x (16 : Int)) (8 : Int)) (1 : Int)))))) M)) ∧ (¬ ((jushr (jushr x (16 : Int)) (8 : Int)) < (4 : Int)) → (Q (some (vI (w32 ((w32 ((w32 ((w32 ((31 : Int) + (-16 : Int))) + (-8 : Int))) + (-2 : Int))) - (jushr (jushr (jushr (jushr x (16 : Int)) (8 : Int)) (2 : Int)) (1 : Int)))))) M)))) ∧ (¬ ((jushr (jushr x (16 : Int)) (8 : Int)) < (16 : Int)) → ((((jushr (jushr (jushr x (16 : Int)) (8 : Int)) (4 : Int)) < (4 : Int)) → (Q (some (vI (w32 ((w32 ((w32 ((w32 ((31 : Int) + (-16 : Int))) + (-8 : Int))) + (-4 : Int))) - (jushr (jushr (jushr (jushr x (16 : Int)) (8 : Int)) (4 : Int)) (1 : Int)))))) M)) ∧ (¬ ((jushr (jushr (jushr x (16 : Int)) (8 : Int)) (4 : Int)) < (4 : Int)) → (Q (some (vI (w32 ((w32 ((w32 ((w32 ((w32 ((31 : Int) + (-16 : Int))) + (-8 : Int))) + (-4 : Int))) + (-2 : Int))) - (jushr (jushr (jushr (jushr (jushr x (16 : Int)) (8 : Int)) (4 : Int)) (2 : Int)) (1 : Int)))))) M)))))))))) ∧ (¬ ((0 : Int) < x) → (Q (some (vI (if x ≠ (0 : Int) then (0 : Int) else (32 : Int)))) M))) :
  Call (e + 1) mJ6_numberOfLeadingZeros_0f7a4 [vI x] M Q := by
  show Run (e + 1) mJ6_numberOfLeadingZeros_0f7a4 0 [some (vI x), none] [] M Q
  refine r_iload_n dJ6_numberOfLeadingZeros_0f7a4_0 rfl ?_
  refine r_if_gt dJ6_numberOfLeadingZeros_0f7a4_1 rfl (fun c1 => ?_) (fun c1 => ?_)
  · refine r_bipush dJ6_numberOfLeadingZeros_0f7a4_15 (by decide) ?_
    refine r_istore_n (ls2 := [some (vI x), some (vI (31 : Int))]) dJ6_numberOfLeadingZeros_0f7a4_17 (Nat.le_of_ble_eq_true rfl) rfl ?_
    refine r_iload_n dJ6_numberOfLeadingZeros_0f7a4_18 rfl ?_
    refine r_ldc_w dJ6_numberOfLeadingZeros_0f7a4_19 kK13_264 ?_
    refine r_icmp_lt dJ6_numberOfLeadingZeros_0f7a4_22 rfl (fun c2 => ?_) (fun c2 => ?_)
    · refine r_iload_n dJ6_numberOfLeadingZeros_0f7a4_33 rfl ?_
      refine r_sipush dJ6_numberOfLeadingZeros_0f7a4_34 (by decide) ?_
      refine r_icmp_lt dJ6_numberOfLeadingZeros_0f7a4_37 rfl (fun c3 => ?_) (fun c3 => ?_)
      · refine r_iload_n dJ6_numberOfLeadingZeros_0f7a4_48 rfl ?_
        refine r_bipush dJ6_numberOfLeadingZeros_0f7a4_49 (by decide) ?_
        refine r_icmp_lt dJ6_numberOfLeadingZeros_0f7a4_51 rfl (fun c4 => ?_) (fun c4 => ?_)
        · refine r_iload_n dJ6_numberOfLeadingZeros_0f7a4_61 rfl ?_
          refine r_iconst dJ6_numberOfLeadingZeros_0f7a4_62 (by decide) ?_
          refine r_icmp_lt dJ6_numberOfLeadingZeros_0f7a4_63 rfl (fun c5 => ?_) (fun c5 => ?_)
          · refine r_iload_n dJ6_numberOfLeadingZeros_0f7a4_73 rfl ?_
            refine r_iload_n dJ6_numberOfLeadingZeros_0f7a4_74 rfl ?_
            refine r_iconst dJ6_numberOfLeadingZeros_0f7a4_75 (by decide) ?_
            refine r_iushr dJ6_numberOfLeadingZeros_0f7a4_76 ?_
            refine r_isub dJ6_numberOfLeadingZeros_0f7a4_77 ?_
            exact r_iret dJ6_numberOfLeadingZeros_0f7a4_78 rfl (((((h.1 c1).1 c2).1 c3).1 c4).1 c5)
          · refine r_iinc (ls2 := [some (vI x), some (vI (w32 ((31 : Int) + (-2 : Int))))]) dJ6_numberOfLeadingZeros_0f7a4_66 rfl rfl ?_
            refine r_iload_n dJ6_numberOfLeadingZeros_0f7a4_69 rfl ?_
            refine r_iconst dJ6_numberOfLeadingZeros_0f7a4_70 (by decide) ?_
            refine r_iushr dJ6_numberOfLeadingZeros_0f7a4_71 ?_
            refine r_istore_n (ls2 := [some (vI (jushr x (2 : Int))), some (vI (w32 ((31 : Int) + (-2 : Int))))]) dJ6_numberOfLeadingZeros_0f7a4_72 (Nat.le_of_ble_eq_true rfl) rfl ?_
            refine r_iload_n dJ6_numberOfLeadingZeros_0f7a4_73 rfl ?_
            refine r_iload_n dJ6_numberOfLeadingZeros_0f7a4_74 rfl ?_
            refine r_iconst dJ6_numberOfLeadingZeros_0f7a4_75 (by decide) ?_
            refine r_iushr dJ6_numberOfLeadingZeros_0f7a4_76 ?_
            refine r_isub dJ6_numberOfLeadingZeros_0f7a4_77 ?_
            exact r_iret dJ6_numberOfLeadingZeros_0f7a4_78 rfl (((((h.1 c1).1 c2).1 c3).1 c4).2 c5)
        · refine r_iinc (ls2 := [some (vI x), some (vI (w32 ((31 : Int) + (-4 : Int))))]) dJ6_numberOfLeadingZeros_0f7a4_54 rfl rfl ?_
          refine r_iload_n dJ6_numberOfLeadingZeros_0f7a4_57 rfl ?_
          refine r_iconst dJ6_numberOfLeadingZeros_0f7a4_58 (by decide) ?_
          refine r_iushr dJ6_numberOfLeadingZeros_0f7a4_59 ?_
          refine r_istore_n (ls2 := [some (vI (jushr x (4 : Int))), some (vI (w32 ((31 : Int) + (-4 : Int))))]) dJ6_numberOfLeadingZeros_0f7a4_60 (Nat.le_of_ble_eq_true rfl) rfl ?_
          refine r_iload_n dJ6_numberOfLeadingZeros_0f7a4_61 rfl ?_
          refine r_iconst dJ6_numberOfLeadingZeros_0f7a4_62 (by decide) ?_
          refine r_icmp_lt dJ6_numberOfLeadingZeros_0f7a4_63 rfl (fun c6 => ?_) (fun c6 => ?_)
          · refine r_iload_n dJ6_numberOfLeadingZeros_0f7a4_73 rfl ?_
            refine r_iload_n dJ6_numberOfLeadingZeros_0f7a4_74 rfl ?_
            refine r_iconst dJ6_numberOfLeadingZeros_0f7a4_75 (by decide) ?_
            refine r_iushr dJ6_numberOfLeadingZeros_0f7a4_76 ?_
            refine r_isub dJ6_numberOfLeadingZeros_0f7a4_77 ?_
            exact r_iret dJ6_numberOfLeadingZeros_0f7a4_78 rfl (((((h.1 c1).1 c2).1 c3).2 c4).1 c6)
          · refine r_iinc (ls2 := [some (vI (jushr x (4 : Int))), some (vI (w32 ((w32 ((31 : Int) + (-4 : Int))) + (-2 : Int))))]) dJ6_numberOfLeadingZeros_0f7a4_66 rfl rfl ?_
            refine r_iload_n dJ6_numberOfLeadingZeros_0f7a4_69 rfl ?_
            refine r_iconst dJ6_numberOfLeadingZeros_0f7a4_70 (by decide) ?_
            refine r_iushr dJ6_numberOfLeadingZeros_0f7a4_71 ?_
            refine r_istore_n (ls2 := [some (vI (jushr (jushr x (4 : Int)) (2 : Int))), some (vI (w32 ((w32 ((31 : Int) + (-4 : Int))) + (-2 : Int))))]) dJ6_numberOfLeadingZeros_0f7a4_72 (Nat.le_of_ble_eq_true rfl) rfl ?_
            refine r_iload_n dJ6_numberOfLeadingZeros_0f7a4_73 rfl ?_
            refine r_iload_n dJ6_numberOfLeadingZeros_0f7a4_74 rfl ?_
            refine r_iconst dJ6_numberOfLeadingZeros_0f7a4_75 (by decide) ?_
            refine r_iushr dJ6_numberOfLeadingZeros_0f7a4_76 ?_
            refine r_isub dJ6_numberOfLeadingZeros_0f7a4_77 ?_
            exact r_iret dJ6_numberOfLeadingZeros_0f7a4_78 rfl (((((h.1 c1).1 c2).1 c3).2 c4).2 c6)
      · refine r_iinc (ls2 := [some (vI x), some (vI (w32 ((31 : Int) + (-8 : Int))))]) dJ6_numberOfLeadingZeros_0f7a4_40 rfl rfl ?_
        refine r_iload_n dJ6_numberOfLeadingZeros_0f7a4_43 rfl ?_
        refine r_bipush dJ6_numberOfLeadingZeros_0f7a4_44 (by decide) ?_
        refine r_iushr dJ6_numberOfLeadingZeros_0f7a4_46 ?_
        refine r_istore_n (ls2 := [some (vI (jushr x (8 : Int))), some (vI (w32 ((31 : Int) + (-8 : Int))))]) dJ6_numberOfLeadingZeros_0f7a4_47 (Nat.le_of_ble_eq_true rfl) rfl ?_
        refine r_iload_n dJ6_numberOfLeadingZeros_0f7a4_48 rfl ?_
        refine r_bipush dJ6_numberOfLeadingZeros_0f7a4_49 (by decide) ?_
        refine r_icmp_lt dJ6_numberOfLeadingZeros_0f7a4_51 rfl (fun c7 => ?_) (fun c7 => ?_)
        · refine r_iload_n dJ6_numberOfLeadingZeros_0f7a4_61 rfl ?_
          refine r_iconst dJ6_numberOfLeadingZeros_0f7a4_62 (by decide) ?_
          refine r_icmp_lt dJ6_numberOfLeadingZeros_0f7a4_63 rfl (fun c8 => ?_) (fun c8 => ?_)
          · refine r_iload_n dJ6_numberOfLeadingZeros_0f7a4_73 rfl ?_
            refine r_iload_n dJ6_numberOfLeadingZeros_0f7a4_74 rfl ?_
            refine r_iconst dJ6_numberOfLeadingZeros_0f7a4_75 (by decide) ?_
            refine r_iushr dJ6_numberOfLeadingZeros_0f7a4_76 ?_
            refine r_isub dJ6_numberOfLeadingZeros_0f7a4_77 ?_
            exact r_iret dJ6_numberOfLeadingZeros_0f7a4_78 rfl (((((h.1 c1).1 c2).2 c3).1 c7).1 c8)
          · refine r_iinc (ls2 := [some (vI (jushr x (8 : Int))), some (vI (w32 ((w32 ((31 : Int) + (-8 : Int))) + (-2 : Int))))]) dJ6_numberOfLeadingZeros_0f7a4_66 rfl rfl ?_
            refine r_iload_n dJ6_numberOfLeadingZeros_0f7a4_69 rfl ?_
            refine r_iconst dJ6_numberOfLeadingZeros_0f7a4_70 (by decide) ?_
            refine r_iushr dJ6_numberOfLeadingZeros_0f7a4_71 ?_
            refine r_istore_n (ls2 := [some (vI (jushr (jushr x (8 : Int)) (2 : Int))), some (vI (w32 ((w32 ((31 : Int) + (-8 : Int))) + (-2 : Int))))]) dJ6_numberOfLeadingZeros_0f7a4_72 (Nat.le_of_ble_eq_true rfl) rfl ?_
            refine r_iload_n dJ6_numberOfLeadingZeros_0f7a4_73 rfl ?_
            refine r_iload_n dJ6_numberOfLeadingZeros_0f7a4_74 rfl ?_
            refine r_iconst dJ6_numberOfLeadingZeros_0f7a4_75 (by decide) ?_
            refine r_iushr dJ6_numberOfLeadingZeros_0f7a4_76 ?_
            refine r_isub dJ6_numberOfLeadingZeros_0f7a4_77 ?_
            exact r_iret dJ6_numberOfLeadingZeros_0f7a4_78 rfl (((((h.1 c1).1 c2).2 c3).1 c7).2 c8)
        · refine r_iinc (ls2 := [some (vI (jushr x (8 : Int))), some (vI (w32 ((w32 ((31 : Int) + (-8 : Int))) + (-4 : Int))))]) dJ6_numberOfLeadingZeros_0f7a4_54 rfl rfl ?_
          refine r_iload_n dJ6_numberOfLeadingZeros_0f7a4_57 rfl ?_
          refine r_iconst dJ6_numberOfLeadingZeros_0f7a4_58 (by decide) ?_
          refine r_iushr dJ6_numberOfLeadingZeros_0f7a4_59 ?_
          refine r_istore_n (ls2 := [some (vI (jushr (jushr x (8 : Int)) (4 : Int))), some (vI (w32 ((w32 ((31 : Int) + (-8 : Int))) + (-4 : Int))))]) dJ6_numberOfLeadingZeros_0f7a4_60 (Nat.le_of_ble_eq_true rfl) rfl ?_
          refine r_iload_n dJ6_numberOfLeadingZeros_0f7a4_61 rfl ?_
          refine r_iconst dJ6_numberOfLeadingZeros_0f7a4_62 (by decide) ?_
          refine r_icmp_lt dJ6_numberOfLeadingZeros_0f7a4_63 rfl (fun c9 => ?_) (fun c9 => ?_)
          · refine r_iload_n dJ6_numberOfLeadingZeros_0f7a4_73 rfl ?_
            refine r_iload_n dJ6_numberOfLeadingZeros_0f7a4_74 rfl ?_
            refine r_iconst dJ6_numberOfLeadingZeros_0f7a4_75 (by decide) ?_
            refine r_iushr dJ6_numberOfLeadingZeros_0f7a4_76 ?_
            refine r_isub dJ6_numberOfLeadingZeros_0f7a4_77 ?_
            exact r_iret dJ6_numberOfLeadingZeros_0f7a4_78 rfl (((((h.1 c1).1 c2).2 c3).2 c7).1 c9)
          · refine r_iinc (ls2 := [some (vI (jushr (jushr x (8 : Int)) (4 : Int))), some (vI (w32 ((w32 ((w32 ((31 : Int) + (-8 : Int))) + (-4 : Int))) + (-2 : Int))))]) dJ6_numberOfLeadingZeros_0f7a4_66 rfl rfl ?_
            refine r_iload_n dJ6_numberOfLeadingZeros_0f7a4_69 rfl ?_
            refine r_iconst dJ6_numberOfLeadingZeros_0f7a4_70 (by decide) ?_
            refine r_iushr dJ6_numberOfLeadingZeros_0f7a4_71 ?_
            refine r_istore_n (ls2 := [some (vI (jushr (jushr (jushr x (8 : Int)) (4 : Int)) (2 : Int))), some (vI (w32 ((w32 ((w32 ((31 : Int) + (-8 : Int))) + (-4 : Int))) + (-2 : Int))))]) dJ6_numberOfLeadingZeros_0f7a4_72 (Nat.le_of_ble_eq_true rfl) rfl ?_
            refine r_iload_n dJ6_numberOfLeadingZeros_0f7a4_73 rfl ?_
            refine r_iload_n dJ6_numberOfLeadingZeros_0f7a4_74 rfl ?_
            refine r_iconst dJ6_numberOfLeadingZeros_0f7a4_75 (by decide) ?_
            refine r_iushr dJ6_numberOfLeadingZeros_0f7a4_76 ?_
            refine r_isub dJ6_numberOfLeadingZeros_0f7a4_77 ?_
            exact r_iret dJ6_numberOfLeadingZeros_0f7a4_78 rfl (((((h.1 c1).1 c2).2 c3).2 c7).2 c9)
    · refine r_iinc (ls2 := [some (vI x), some (vI (w32 ((31 : Int) + (-16 : Int))))]) dJ6_numberOfLeadingZeros_0f7a4_25 rfl rfl ?_
      refine r_iload_n dJ6_numberOfLeadingZeros_0f7a4_28 rfl ?_
      refine r_bipush dJ6_numberOfLeadingZeros_0f7a4_29 (by decide) ?_
      refine r_iushr dJ6_numberOfLeadingZeros_0f7a4_31 ?_
      refine r_istore_n (ls2 := [some (vI (jushr x (16 : Int))), some (vI (w32 ((31 : Int) + (-16 : Int))))]) dJ6_numberOfLeadingZeros_0f7a4_32 (Nat.le_of_ble_eq_true rfl) rfl ?_
      refine r_iload_n dJ6_numberOfLeadingZeros_0f7a4_33 rfl ?_
      refine r_sipush dJ6_numberOfLeadingZeros_0f7a4_34 (by decide) ?_
      refine r_icmp_lt dJ6_numberOfLeadingZeros_0f7a4_37 rfl (fun c10 => ?_) (fun c10 => ?_)
      · refine r_iload_n dJ6_numberOfLeadingZeros_0f7a4_48 rfl ?_
        refine r_bipush dJ6_numberOfLeadingZeros_0f7a4_49 (by decide) ?_
        refine r_icmp_lt dJ6_numberOfLeadingZeros_0f7a4_51 rfl (fun c11 => ?_) (fun c11 => ?_)
        · refine r_iload_n dJ6_numberOfLeadingZeros_0f7a4_61 rfl ?_
          refine r_iconst dJ6_numberOfLeadingZeros_0f7a4_62 (by decide) ?_
          refine r_icmp_lt dJ6_numberOfLeadingZeros_0f7a4_63 rfl (fun c12 => ?_) (fun c12 => ?_)
          · refine r_iload_n dJ6_numberOfLeadingZeros_0f7a4_73 rfl ?_
            refine r_iload_n dJ6_numberOfLeadingZeros_0f7a4_74 rfl ?_
            refine r_iconst dJ6_numberOfLeadingZeros_0f7a4_75 (by decide) ?_
            refine r_iushr dJ6_numberOfLeadingZeros_0f7a4_76 ?_
            refine r_isub dJ6_numberOfLeadingZeros_0f7a4_77 ?_
            exact r_iret dJ6_numberOfLeadingZeros_0f7a4_78 rfl (((((h.1 c1).2 c2).1 c10).1 c11).1 c12)
          · refine r_iinc (ls2 := [some (vI (jushr x (16 : Int))), some (vI (w32 ((w32 ((31 : Int) + (-16 : Int))) + (-2 : Int))))]) dJ6_numberOfLeadingZeros_0f7a4_66 rfl rfl ?_
            refine r_iload_n dJ6_numberOfLeadingZeros_0f7a4_69 rfl ?_
            refine r_iconst dJ6_numberOfLeadingZeros_0f7a4_70 (by decide) ?_
            refine r_iushr dJ6_numberOfLeadingZeros_0f7a4_71 ?_
            refine r_istore_n (ls2 := [some (vI (jushr (jushr x (16 : Int)) (2 : Int))), some (vI (w32 ((w32 ((31 : Int) + (-16 : Int))) + (-2 : Int))))]) dJ6_numberOfLeadingZeros_0f7a4_72 (Nat.le_of_ble_eq_true rfl) rfl ?_
            refine r_iload_n dJ6_numberOfLeadingZeros_0f7a4_73 rfl ?_
            refine r_iload_n dJ6_numberOfLeadingZeros_0f7a4_74 rfl ?_
            refine r_iconst dJ6_numberOfLeadingZeros_0f7a4_75 (by decide) ?_
            refine r_iushr dJ6_numberOfLeadingZeros_0f7a4_76 ?_
            refine r_isub dJ6_numberOfLeadingZeros_0f7a4_77 ?_
            exact r_iret dJ6_numberOfLeadingZeros_0f7a4_78 rfl (((((h.1 c1).2 c2).1 c10).1 c11).2 c12)
        · refine r_iinc (ls2 := [some (vI (jushr x (16 : Int))), some (vI (w32 ((w32 ((31 : Int) + (-16 : Int))) + (-4 : Int))))]) dJ6_numberOfLeadingZeros_0f7a4_54 rfl rfl ?_
          refine r_iload_n dJ6_numberOfLeadingZeros_0f7a4_57 rfl ?_
          refine r_iconst dJ6_numberOfLeadingZeros_0f7a4_58 (by decide) ?_
          refine r_iushr dJ6_numberOfLeadingZeros_0f7a4_59 ?_
          refine r_istore_n (ls2 := [some (vI (jushr (jushr x (16 : Int)) (4 : Int))), some (vI (w32 ((w32 ((31 : Int) + (-16 : Int))) + (-4 : Int))))]) dJ6_numberOfLeadingZeros_0f7a4_60 (Nat.le_of_ble_eq_true rfl) rfl ?_
          refine r_iload_n dJ6_numberOfLeadingZeros_0f7a4_61 rfl ?_
          refine r_iconst dJ6_numberOfLeadingZeros_0f7a4_62 (by decide) ?_
          refine r_icmp_lt dJ6_numberOfLeadingZeros_0f7a4_63 rfl (fun c13 => ?_) (fun c13 => ?_)
          · refine r_iload_n dJ6_numberOfLeadingZeros_0f7a4_73 rfl ?_
            refine r_iload_n dJ6_numberOfLeadingZeros_0f7a4_74 rfl ?_
            refine r_iconst dJ6_numberOfLeadingZeros_0f7a4_75 (by decide) ?_
            refine r_iushr dJ6_numberOfLeadingZeros_0f7a4_76 ?_
            refine r_isub dJ6_numberOfLeadingZeros_0f7a4_77 ?_
            exact r_iret dJ6_numberOfLeadingZeros_0f7a4_78 rfl (((((h.1 c1).2 c2).1 c10).2 c11).1 c13)
          · refine r_iinc (ls2 := [some (vI (jushr (jushr x (16 : Int)) (4 : Int))), some (vI (w32 ((w32 ((w32 ((31 : Int) + (-16 : Int))) + (-4 : Int))) + (-2 : Int))))]) dJ6_numberOfLeadingZeros_0f7a4_66 rfl rfl ?_
            refine r_iload_n dJ6_numberOfLeadingZeros_0f7a4_69 rfl ?_
            refine r_iconst dJ6_numberOfLeadingZeros_0f7a4_70 (by decide) ?_
            refine r_iushr dJ6_numberOfLeadingZeros_0f7a4_71 ?_
            refine r_istore_n (ls2 := [some (vI (jushr (jushr (jushr x (16 : Int)) (4 : Int)) (2 : Int))), some (vI (w32 ((w32 ((w32 ((31 : Int) + (-16 : Int))) + (-4 : Int))) + (-2 : Int))))]) dJ6_numberOfLeadingZeros_0f7a4_72 (Nat.le_of_ble_eq_true rfl) rfl ?_
            refine r_iload_n dJ6_numberOfLeadingZeros_0f7a4_73 rfl ?_
            refine r_iload_n dJ6_numberOfLeadingZeros_0f7a4_74 rfl ?_
            refine r_iconst dJ6_numberOfLeadingZeros_0f7a4_75 (by decide) ?_
            refine r_iushr dJ6_numberOfLeadingZeros_0f7a4_76 ?_
            refine r_isub dJ6_numberOfLeadingZeros_0f7a4_77 ?_
            exact r_iret dJ6_numberOfLeadingZeros_0f7a4_78 rfl (((((h.1 c1).2 c2).1 c10).2 c11).2 c13)
      · refine r_iinc (ls2 := [some (vI (jushr x (16 : Int))), some (vI (w32 ((w32 ((31 : Int) + (-16 : Int))) + (-8 : Int))))]) dJ6_numberOfLeadingZeros_0f7a4_40 rfl rfl ?_
        refine r_iload_n dJ6_numberOfLeadingZeros_0f7a4_43 rfl ?_
        refine r_bipush dJ6_numberOfLeadingZeros_0f7a4_44 (by decide) ?_
        refine r_iushr dJ6_numberOfLeadingZeros_0f7a4_46 ?_
        refine r_istore_n (ls2 := [some (vI (jushr (jushr x (16 : Int)) (8 : Int))), some (vI (w32 ((w32 ((31 : Int) + (-16 : Int))) + (-8 : Int))))]) dJ6_numberOfLeadingZeros_0f7a4_47 (Nat.le_of_ble_eq_true rfl) rfl ?_
        refine r_iload_n dJ6_numberOfLeadingZeros_0f7a4_48 rfl ?_
        refine r_bipush dJ6_numberOfLeadingZeros_0f7a4_49 (by decide) ?_
        refine r_icmp_lt dJ6_numberOfLeadingZeros_0f7a4_51 rfl (fun c14 => ?_) (fun c14 => ?_)
        · refine r_iload_n dJ6_numberOfLeadingZeros_0f7a4_61 rfl ?_
          refine r_iconst dJ6_numberOfLeadingZeros_0f7a4_62 (by decide) ?_
          refine r_icmp_lt dJ6_numberOfLeadingZeros_0f7a4_63 rfl (fun c15 => ?_) (fun c15 => ?_)
          · refine r_iload_n dJ6_numberOfLeadingZeros_0f7a4_73 rfl ?_
            refine r_iload_n dJ6_numberOfLeadingZeros_0f7a4_74 rfl ?_
            refine r_iconst dJ6_numberOfLeadingZeros_0f7a4_75 (by decide) ?_
            refine r_iushr dJ6_numberOfLeadingZeros_0f7a4_76 ?_
            refine r_isub dJ6_numberOfLeadingZeros_0f7a4_77 ?_
            exact r_iret dJ6_numberOfLeadingZeros_0f7a4_78 rfl (((((h.1 c1).2 c2).2 c10).1 c14).1 c15)
          · refine r_iinc (ls2 := [some (vI (jushr (jushr x (16 : Int)) (8 : Int))), some (vI (w32 ((w32 ((w32 ((31 : Int) + (-16 : Int))) + (-8 : Int))) + (-2 : Int))))]) dJ6_numberOfLeadingZeros_0f7a4_66 rfl rfl ?_
            refine r_iload_n dJ6_numberOfLeadingZeros_0f7a4_69 rfl ?_
            refine r_iconst dJ6_numberOfLeadingZeros_0f7a4_70 (by decide) ?_
            refine r_iushr dJ6_numberOfLeadingZeros_0f7a4_71 ?_
            refine r_istore_n (ls2 := [some (vI (jushr (jushr (jushr x (16 : Int)) (8 : Int)) (2 : Int))), some (vI (w32 ((w32 ((w32 ((31 : Int) + (-16 : Int))) + (-8 : Int))) + (-2 : Int))))]) dJ6_numberOfLeadingZeros_0f7a4_72 (Nat.le_of_ble_eq_true rfl) rfl ?_
            refine r_iload_n dJ6_numberOfLeadingZeros_0f7a4_73 rfl ?_
            refine r_iload_n dJ6_numberOfLeadingZeros_0f7a4_74 rfl ?_
            refine r_iconst dJ6_numberOfLeadingZeros_0f7a4_75 (by decide) ?_
            refine r_iushr dJ6_numberOfLeadingZeros_0f7a4_76 ?_
            refine r_isub dJ6_numberOfLeadingZeros_0f7a4_77 ?_
            exact r_iret dJ6_numberOfLeadingZeros_0f7a4_78 rfl (((((h.1 c1).2 c2).2 c10).1 c14).2 c15)
        · refine r_iinc (ls2 := [some (vI (jushr (jushr x (16 : Int)) (8 : Int))), some (vI (w32 ((w32 ((w32 ((31 : Int) + (-16 : Int))) + (-8 : Int))) + (-4 : Int))))]) dJ6_numberOfLeadingZeros_0f7a4_54 rfl rfl ?_
          refine r_iload_n dJ6_numberOfLeadingZeros_0f7a4_57 rfl ?_
          refine r_iconst dJ6_numberOfLeadingZeros_0f7a4_58 (by decide) ?_
          refine r_iushr dJ6_numberOfLeadingZeros_0f7a4_59 ?_
          refine r_istore_n (ls2 := [some (vI (jushr (jushr (jushr x (16 : Int)) (8 : Int)) (4 : Int))), some (vI (w32 ((w32 ((w32 ((31 : Int) + (-16 : Int))) + (-8 : Int))) + (-4 : Int))))]) dJ6_numberOfLeadingZeros_0f7a4_60 (Nat.le_of_ble_eq_true rfl) rfl ?_
          refine r_iload_n dJ6_numberOfLeadingZeros_0f7a4_61 rfl ?_
          refine r_iconst dJ6_numberOfLeadingZeros_0f7a4_62 (by decide) ?_
          refine r_icmp_lt dJ6_numberOfLeadingZeros_0f7a4_63 rfl (fun c16 => ?_) (fun c16 => ?_)
          · refine r_iload_n dJ6_numberOfLeadingZeros_0f7a4_73 rfl ?_
            refine r_iload_n dJ6_numberOfLeadingZeros_0f7a4_74 rfl ?_
            refine r_iconst dJ6_numberOfLeadingZeros_0f7a4_75 (by decide) ?_
            refine r_iushr dJ6_numberOfLeadingZeros_0f7a4_76 ?_
            refine r_isub dJ6_numberOfLeadingZeros_0f7a4_77 ?_
            exact r_iret dJ6_numberOfLeadingZeros_0f7a4_78 rfl (((((h.1 c1).2 c2).2 c10).2 c14).1 c16)
          · refine r_iinc (ls2 := [some (vI (jushr (jushr (jushr x (16 : Int)) (8 : Int)) (4 : Int))), some (vI (w32 ((w32 ((w32 ((w32 ((31 : Int) + (-16 : Int))) + (-8 : Int))) + (-4 : Int))) + (-2 : Int))))]) dJ6_numberOfLeadingZeros_0f7a4_66 rfl rfl ?_
            refine r_iload_n dJ6_numberOfLeadingZeros_0f7a4_69 rfl ?_
            refine r_iconst dJ6_numberOfLeadingZeros_0f7a4_70 (by decide) ?_
            refine r_iushr dJ6_numberOfLeadingZeros_0f7a4_71 ?_
            refine r_istore_n (ls2 := [some (vI (jushr (jushr (jushr (jushr x (16 : Int)) (8 : Int)) (4 : Int)) (2 : Int))), some (vI (w32 ((w32 ((w32 ((w32 ((31 : Int) + (-16 : Int))) + (-8 : Int))) + (-4 : Int))) + (-2 : Int))))]) dJ6_numberOfLeadingZeros_0f7a4_72 (Nat.le_of_ble_eq_true rfl) rfl ?_
            refine r_iload_n dJ6_numberOfLeadingZeros_0f7a4_73 rfl ?_
            refine r_iload_n dJ6_numberOfLeadingZeros_0f7a4_74 rfl ?_
            refine r_iconst dJ6_numberOfLeadingZeros_0f7a4_75 (by decide) ?_
            refine r_iushr dJ6_numberOfLeadingZeros_0f7a4_76 ?_
            refine r_isub dJ6_numberOfLeadingZeros_0f7a4_77 ?_
            exact r_iret dJ6_numberOfLeadingZeros_0f7a4_78 rfl (((((h.1 c1).2 c2).2 c10).2 c14).2 c16)
  · refine r_iload_n dJ6_numberOfLeadingZeros_0f7a4_4 rfl ?_
    have K17 : Run (e + 1) mJ6_numberOfLeadingZeros_0f7a4 14 [some (vI x), none] [vI (if x ≠ (0 : Int) then (0 : Int) else (32 : Int))] M Q := by
      exact r_iret dJ6_numberOfLeadingZeros_0f7a4_14 rfl (h.2 c1)
    refine r_if_ne dJ6_numberOfLeadingZeros_0f7a4_5 rfl (fun q18 => ?_) (fun q18 => ?_)
    · rw [if_pos q18] at K17
      refine r_iconst dJ6_numberOfLeadingZeros_0f7a4_13 (by decide) ?_
      exact K17
    · rw [if_neg q18] at K17
      refine r_bipush dJ6_numberOfLeadingZeros_0f7a4_8 (by decide) ?_
      refine r_goto (tgt := 14) dJ6_numberOfLeadingZeros_0f7a4_10 rfl ?_
      exact K17
theorem vc_J13numberOfLeadingZeros {e : Nat} {M : jM} {Q : Option jV → jM → Prop} {x : Int}  
  (h : (((w32 (jushrL x (32 : Int))) ≠ (0 : Int)) → (Call e mJ6_numberOfLeadingZeros_0f7a4 [vI (w32 (jushrL x (32 : Int)))] M (fun r5 M3 => ∃ z2 : Int, r5 = some (vI z2) ∧ Shp M3 ∧ (Q (some (vI z2)) M3)))) ∧ (¬ ((w32 (jushrL x (32 : Int))) ≠ (0 : Int)) → (Call e mJ6_numberOfLeadingZeros_0f7a4 [vI (w32 x)] M (fun r10 M8 => ∃ z7 : Int, r10 = some (vI z7) ∧ Shp M8 ∧ (Q (some (vI (w32 ((32 : Int) + z7)))) M8))))) :
  Call (e + 1) mJ13_numberOfLeadingZeros_95d88 [vL x] M Q := by
  show Run (e + 1) mJ13_numberOfLeadingZeros_95d88 0 [some (vL x), none, none] [] M Q
  refine r_lload_n dJ13_numberOfLeadingZeros_95d88_0 rfl ?_
  refine r_bipush dJ13_numberOfLeadingZeros_95d88_1 (by decide) ?_
  refine r_lushr dJ13_numberOfLeadingZeros_95d88_3 ?_
  refine r_l2i dJ13_numberOfLeadingZeros_95d88_4 ?_
  refine r_istore_n (ls2 := [some (vL x), none, some (vI (w32 (jushrL x (32 : Int))))]) dJ13_numberOfLeadingZeros_95d88_5 (Nat.le_of_ble_eq_true rfl) rfl ?_
  refine r_iload_n dJ13_numberOfLeadingZeros_95d88_6 rfl ?_
  refine r_if_ne dJ13_numberOfLeadingZeros_95d88_7 rfl (fun c1 => ?_) (fun c1 => ?_)
  · refine r_iload_n dJ13_numberOfLeadingZeros_95d88_21 rfl ?_
    refine r_invS_i dJ13_numberOfLeadingZeros_95d88_22 (by decide) kXn14_308 kM14_308 (by decide) (Nat.le_of_ble_eq_true rfl) rfl rfl (Nat.le_of_ble_eq_true rfl) (Nat.le_of_ble_eq_true rfl) (Call.mono (h.1 c1) (Nat.le_refl _) ?_)
    rintro _ M3 ⟨z2, rfl, s6, h4⟩
    refine ⟨_, rfl, ?_⟩
    exact r_iret dJ13_numberOfLeadingZeros_95d88_25 rfl h4
  · refine r_bipush dJ13_numberOfLeadingZeros_95d88_10 (by decide) ?_
    refine r_lload_n dJ13_numberOfLeadingZeros_95d88_12 rfl ?_
    refine r_l2i dJ13_numberOfLeadingZeros_95d88_13 ?_
    refine r_invS_i dJ13_numberOfLeadingZeros_95d88_14 (by decide) kXn14_308 kM14_308 (by decide) (Nat.le_of_ble_eq_true rfl) rfl rfl (Nat.le_of_ble_eq_true rfl) (Nat.le_of_ble_eq_true rfl) (Call.mono (h.2 c1) (Nat.le_refl _) ?_)
    rintro _ M8 ⟨z7, rfl, s11, h9⟩
    refine ⟨_, rfl, ?_⟩
    refine r_iadd dJ13_numberOfLeadingZeros_95d88_17 ?_
    refine r_goto (tgt := 25) dJ13_numberOfLeadingZeros_95d88_18 rfl ?_
    exact r_iret dJ13_numberOfLeadingZeros_95d88_25 rfl h9
theorem vc_J6bitCount {e : Nat} {M : jM} {Q : Option jV → jM → Prop} {x : Int}  
  (h : Q (some (vI (jand (w32 ((w32 ((jand (w32 ((w32 ((jand (w32 (x - (jand (jushr x (1 : Int)) (1431655765 : Int)))) (858993459 : Int)) + (jand (jushr (w32 (x - (jand (jushr x (1 : Int)) (1431655765 : Int)))) (2 : Int)) (858993459 : Int)))) + (jushr (w32 ((jand (w32 (x - (jand (jushr x (1 : Int)) (1431655765 : Int)))) (858993459 : Int)) + (jand (jushr (w32 (x - (jand (jushr x (1 : Int)) (1431655765 : Int)))) (2 : Int)) (858993459 : Int)))) (4 : Int)))) (252645135 : Int)) + (jushr (jand (w32 ((w32 ((jand (w32 (x - (jand (jushr x (1 : Int)) (1431655765 : Int)))) (858993459 : Int)) + (jand (jushr (w32 (x - (jand (jushr x (1 : Int)) (1431655765 : Int)))) (2 : Int)) (858993459 : Int)))) + (jushr (w32 ((jand (w32 (x - (jand (jushr x (1 : Int)) (1431655765 : Int)))) (858993459 : Int)) + (jand (jushr (w32 (x - (jand (jushr x (1 : Int)) (1431655765 : Int)))) (2 : Int)) (858993459 : Int)))) (4 : Int)))) (252645135 : Int)) (8 : Int)))) + (jushr (w32 ((jand (w32 ((w32 ((jand (w32 (x - (jand (jushr x (1 : Int)) (1431655765 : Int)))) (858993459 : Int)) + (jand (jushr (w32 (x - (jand (jushr x (1 : Int)) (1431655765 : Int)))) (2 : Int)) (858993459 : Int)))) + (jushr (w32 ((jand (w32 (x - (jand (jushr x (1 : Int)) (1431655765 : Int)))) (858993459 : Int)) + (jand (jushr (w32 (x - (jand (jushr x (1 : Int)) (1431655765 : Int)))) (2 : Int)) (858993459 : Int)))) (4 : Int)))) (252645135 : Int)) + (jushr (jand (w32 ((w32 ((jand (w32 (x - (jand (jushr x (1 : Int)) (1431655765 : Int)))) (858993459 : Int)) + (jand (jushr (w32 (x - (jand (jushr x (1 : Int)) (1431655765 : Int)))) (2 : Int)) (858993459 : Int)))) + (jushr (w32 ((jand (w32 (x - (jand (jushr x (1 : Int)) (1431655765 : Int)))) (858993459 : Int)) + (jand (jushr (w32 (x - (jand (jushr x (1 : Int)) (1431655765 : Int)))) (2 : Int)) (858993459 : Int)))) (4 : Int)))) (252645135 : Int)) (8 : Int)))) (16 : Int)))) (63 : Int)))) M) :
  Call (e + 1) mJ6_bitCount_0f7a4 [vI x] M Q := by
  show Run (e + 1) mJ6_bitCount_0f7a4 0 [some (vI x)] [] M Q
  refine r_iload_n dJ6_bitCount_0f7a4_0 rfl ?_
  refine r_iload_n dJ6_bitCount_0f7a4_1 rfl ?_
  refine r_iconst dJ6_bitCount_0f7a4_2 (by decide) ?_
  refine r_iushr dJ6_bitCount_0f7a4_3 ?_
  refine r_ldc_w dJ6_bitCount_0f7a4_4 kK13_265 ?_
  refine r_iand dJ6_bitCount_0f7a4_7 ?_
  refine r_isub dJ6_bitCount_0f7a4_8 ?_
  refine r_istore_n (ls2 := [some (vI (w32 (x - (jand (jushr x (1 : Int)) (1431655765 : Int)))))]) dJ6_bitCount_0f7a4_9 (Nat.le_of_ble_eq_true rfl) rfl ?_
  refine r_iload_n dJ6_bitCount_0f7a4_10 rfl ?_
  refine r_ldc_w dJ6_bitCount_0f7a4_11 kK13_266 ?_
  refine r_iand dJ6_bitCount_0f7a4_14 ?_
  refine r_iload_n dJ6_bitCount_0f7a4_15 rfl ?_
  refine r_iconst dJ6_bitCount_0f7a4_16 (by decide) ?_
  refine r_iushr dJ6_bitCount_0f7a4_17 ?_
  refine r_ldc_w dJ6_bitCount_0f7a4_18 kK13_266 ?_
  refine r_iand dJ6_bitCount_0f7a4_21 ?_
  refine r_iadd dJ6_bitCount_0f7a4_22 ?_
  refine r_istore_n (ls2 := [some (vI (w32 ((jand (w32 (x - (jand (jushr x (1 : Int)) (1431655765 : Int)))) (858993459 : Int)) + (jand (jushr (w32 (x - (jand (jushr x (1 : Int)) (1431655765 : Int)))) (2 : Int)) (858993459 : Int)))))]) dJ6_bitCount_0f7a4_23 (Nat.le_of_ble_eq_true rfl) rfl ?_
  refine r_iload_n dJ6_bitCount_0f7a4_24 rfl ?_
  refine r_iload_n dJ6_bitCount_0f7a4_25 rfl ?_
  refine r_iconst dJ6_bitCount_0f7a4_26 (by decide) ?_
  refine r_iushr dJ6_bitCount_0f7a4_27 ?_
  refine r_iadd dJ6_bitCount_0f7a4_28 ?_
  refine r_ldc_w dJ6_bitCount_0f7a4_29 kK13_267 ?_
  refine r_iand dJ6_bitCount_0f7a4_32 ?_
  refine r_istore_n (ls2 := [some (vI (jand (w32 ((w32 ((jand (w32 (x - (jand (jushr x (1 : Int)) (1431655765 : Int)))) (858993459 : Int)) + (jand (jushr (w32 (x - (jand (jushr x (1 : Int)) (1431655765 : Int)))) (2 : Int)) (858993459 : Int)))) + (jushr (w32 ((jand (w32 (x - (jand (jushr x (1 : Int)) (1431655765 : Int)))) (858993459 : Int)) + (jand (jushr (w32 (x - (jand (jushr x (1 : Int)) (1431655765 : Int)))) (2 : Int)) (858993459 : Int)))) (4 : Int)))) (252645135 : Int)))]) dJ6_bitCount_0f7a4_33 (Nat.le_of_ble_eq_true rfl) rfl ?_
  refine r_iload_n dJ6_bitCount_0f7a4_34 rfl ?_
  refine r_iload_n dJ6_bitCount_0f7a4_35 rfl ?_
  refine r_bipush dJ6_bitCount_0f7a4_36 (by decide) ?_
  refine r_iushr dJ6_bitCount_0f7a4_38 ?_
  refine r_iadd dJ6_bitCount_0f7a4_39 ?_
  refine r_istore_n (ls2 := [some (vI (w32 ((jand (w32 ((w32 ((jand (w32 (x - (jand (jushr x (1 : Int)) (1431655765 : Int)))) (858993459 : Int)) + (jand (jushr (w32 (x - (jand (jushr x (1 : Int)) (1431655765 : Int)))) (2 : Int)) (858993459 : Int)))) + (jushr (w32 ((jand (w32 (x - (jand (jushr x (1 : Int)) (1431655765 : Int)))) (858993459 : Int)) + (jand (jushr (w32 (x - (jand (jushr x (1 : Int)) (1431655765 : Int)))) (2 : Int)) (858993459 : Int)))) (4 : Int)))) (252645135 : Int)) + (jushr (jand (w32 ((w32 ((jand (w32 (x - (jand (jushr x (1 : Int)) (1431655765 : Int)))) (858993459 : Int)) + (jand (jushr (w32 (x - (jand (jushr x (1 : Int)) (1431655765 : Int)))) (2 : Int)) (858993459 : Int)))) + (jushr (w32 ((jand (w32 (x - (jand (jushr x (1 : Int)) (1431655765 : Int)))) (858993459 : Int)) + (jand (jushr (w32 (x - (jand (jushr x (1 : Int)) (1431655765 : Int)))) (2 : Int)) (858993459 : Int)))) (4 : Int)))) (252645135 : Int)) (8 : Int)))))]) dJ6_bitCount_0f7a4_40 (Nat.le_of_ble_eq_true rfl) rfl ?_
  refine r_iload_n dJ6_bitCount_0f7a4_41 rfl ?_
  refine r_iload_n dJ6_bitCount_0f7a4_42 rfl ?_
  refine r_bipush dJ6_bitCount_0f7a4_43 (by decide) ?_
  refine r_iushr dJ6_bitCount_0f7a4_45 ?_
  refine r_iadd dJ6_bitCount_0f7a4_46 ?_
  refine r_istore_n (ls2 := [some (vI (w32 ((w32 ((jand (w32 ((w32 ((jand (w32 (x - (jand (jushr x (1 : Int)) (1431655765 : Int)))) (858993459 : Int)) + (jand (jushr (w32 (x - (jand (jushr x (1 : Int)) (1431655765 : Int)))) (2 : Int)) (858993459 : Int)))) + (jushr (w32 ((jand (w32 (x - (jand (jushr x (1 : Int)) (1431655765 : Int)))) (858993459 : Int)) + (jand (jushr (w32 (x - (jand (jushr x (1 : Int)) (1431655765 : Int)))) (2 : Int)) (858993459 : Int)))) (4 : Int)))) (252645135 : Int)) + (jushr (jand (w32 ((w32 ((jand (w32 (x - (jand (jushr x (1 : Int)) (1431655765 : Int)))) (858993459 : Int)) + (jand (jushr (w32 (x - (jand (jushr x (1 : Int)) (1431655765 : Int)))) (2 : Int)) (858993459 : Int)))) + (jushr (w32 ((jand (w32 (x - (jand (jushr x (1 : Int)) (1431655765 : Int)))) (858993459 : Int)) + (jand (jushr (w32 (x - (jand (jushr x (1 : Int)) (1431655765 : Int)))) (2 : Int)) (858993459 : Int)))) (4 : Int)))) (252645135 : Int)) (8 : Int)))) + (jushr (w32 ((jand (w32 ((w32 ((jand (w32 (x - (jand (jushr x (1 : Int)) (1431655765 : Int)))) (858993459 : Int)) + (jand (jushr (w32 (x - (jand (jushr x (1 : Int)) (1431655765 : Int)))) (2 : Int)) (858993459 : Int)))) + (jushr (w32 ((jand (w32 (x - (jand (jushr x (1 : Int)) (1431655765 : Int)))) (858993459 : Int)) + (jand (jushr (w32 (x - (jand (jushr x (1 : Int)) (1431655765 : Int)))) (2 : Int)) (858993459 : Int)))) (4 : Int)))) (252645135 : Int)) + (jushr (jand (w32 ((w32 ((jand (w32 (x - (jand (jushr x (1 : Int)) (1431655765 : Int)))) (858993459 : Int)) + (jand (jushr (w32 (x - (jand (jushr x (1 : Int)) (1431655765 : Int)))) (2 : Int)) (858993459 : Int)))) + (jushr (w32 ((jand (w32 (x - (jand (jushr x (1 : Int)) (1431655765 : Int)))) (858993459 : Int)) + (jand (jushr (w32 (x - (jand (jushr x (1 : Int)) (1431655765 : Int)))) (2 : Int)) (858993459 : Int)))) (4 : Int)))) (252645135 : Int)) (8 : Int)))) (16 : Int)))))]) dJ6_bitCount_0f7a4_47 (Nat.le_of_ble_eq_true rfl) rfl ?_
  refine r_iload_n dJ6_bitCount_0f7a4_48 rfl ?_
  refine r_bipush dJ6_bitCount_0f7a4_49 (by decide) ?_
  refine r_iand dJ6_bitCount_0f7a4_51 ?_
  exact r_iret dJ6_bitCount_0f7a4_52 rfl h
theorem vm_lengthOf {e : Nat} {M : jM} {Q : Option jV → jM → Prop} {x : Int}  
  (h : Call e mJ13_numberOfLeadingZeros_95d88 [vL x] M (fun r4 M2 => ∃ z1 : Int, r4 = some (vI z1) ∧ Shp M2 ∧ (Q (some (vI (w32 ((64 : Int) - z1)))) M2))) :
  Call (e + 1) mX11_lengthOf [vL x] M Q := by
  show Run (e + 1) mX11_lengthOf 0 [some (vL x), none] [] M Q
  refine r_bipush dX11_lengthOf_0 (by decide) ?_
  refine r_lload_n dX11_lengthOf_2 rfl ?_
  refine r_invS_i dX11_lengthOf_3 (by decide) kXn11_312 kM11_312 (by decide) (Nat.le_of_ble_eq_true rfl) rfl rfl (Nat.le_of_ble_eq_true rfl) (Nat.le_of_ble_eq_true rfl) (Call.mono h (Nat.le_refl _) ?_)
  rintro _ M2 ⟨z1, rfl, s5, h3⟩
  refine ⟨_, rfl, ?_⟩
  refine r_isub dX11_lengthOf_6 ?_
  exact r_iret dX11_lengthOf_7 rfl h3
theorem vm_rounded {e : Nat} {M : jM} {Q : Option jV → jM → Prop} {x : Int}  
  (h : Call e mX11_lengthOf [vL x] M (fun r4 M2 => ∃ z1 : Int, r4 = some (vI z1) ∧ Shp M2 ∧ ((((0 : Int) < (w32 (z1 - (24 : Int)))) → (Q (some (vL (jshlL (if (if (0 : Int) < (jcmp (w64 (x - (jshlL (jshrL x (w32 (z1 - (24 : Int)))) (w32 (z1 - (24 : Int)))))) (jshlL (1 : Int) (w32 ((w32 (z1 - (24 : Int))) - (1 : Int))))) then (1 : Int) else (if (jcmp (w64 (x - (jshlL (jshrL x (w32 (z1 - (24 : Int)))) (w32 (z1 - (24 : Int)))))) (jshlL (1 : Int) (w32 ((w32 (z1 - (24 : Int))) - (1 : Int))))) ≠ (0 : Int) then (0 : Int) else (if (jcmp (jandL (jshrL x (w32 (z1 - (24 : Int)))) (1 : Int)) (1 : Int)) ≠ (0 : Int) then (0 : Int) else (1 : Int)))) = (0 : Int) then jshrL x (w32 (z1 - (24 : Int))) else w64 ((jshrL x (w32 (z1 - (24 : Int)))) + (1 : Int))) (w32 (z1 - (24 : Int)))))) M2)) ∧ (¬ ((0 : Int) < (w32 (z1 - (24 : Int)))) → (Q (some (vL x)) M2))))) :
  Call (e + 1) mX11_rounded [vL x] M Q := by
  show Run (e + 1) mX11_rounded 0 [some (vL x), none, none, none, none, none, none, none, none, none] [] M Q
  refine r_lload_n dX11_rounded_0 rfl ?_
  refine r_invS_i dX11_rounded_1 (by decide) kXn11_317 kM11_317 (by decide) (Nat.le_of_ble_eq_true rfl) rfl rfl (Nat.le_of_ble_eq_true rfl) (Nat.le_of_ble_eq_true rfl) (Call.mono h (Nat.le_refl _) ?_)
  rintro _ M2 ⟨z1, rfl, s5, h3⟩
  refine ⟨_, rfl, ?_⟩
  refine r_bipush dX11_rounded_4 (by decide) ?_
  refine r_isub dX11_rounded_6 ?_
  refine r_istore_n (ls2 := [some (vL x), none, some (vI (w32 (z1 - (24 : Int)))), none, none, none, none, none, none, none]) dX11_rounded_7 (Nat.le_of_ble_eq_true rfl) rfl ?_
  refine r_iload_n dX11_rounded_8 rfl ?_
  refine r_if_gt dX11_rounded_9 rfl (fun c6 => ?_) (fun c6 => ?_)
  · refine r_lload_n dX11_rounded_14 rfl ?_
    refine r_iload_n dX11_rounded_15 rfl ?_
    refine r_lshr dX11_rounded_16 ?_
    refine r_lstore_n (ls2 := [some (vL x), none, some (vI (w32 (z1 - (24 : Int)))), some (vL (jshrL x (w32 (z1 - (24 : Int))))), none, none, none, none, none, none]) dX11_rounded_17 (Nat.le_of_ble_eq_true rfl) rfl ?_
    refine r_lload_n dX11_rounded_18 rfl ?_
    refine r_lload_n dX11_rounded_19 rfl ?_
    refine r_iload_n dX11_rounded_20 rfl ?_
    refine r_lshl dX11_rounded_21 ?_
    refine r_lsub dX11_rounded_22 ?_
    refine r_lstore (ls2 := [some (vL x), none, some (vI (w32 (z1 - (24 : Int)))), some (vL (jshrL x (w32 (z1 - (24 : Int))))), none, some (vL (w64 (x - (jshlL (jshrL x (w32 (z1 - (24 : Int)))) (w32 (z1 - (24 : Int))))))), none, none, none, none]) dX11_rounded_23 (Nat.le_of_ble_eq_true rfl) rfl ?_
    refine r_lconst1 dX11_rounded_25 ?_
    refine r_iload_n dX11_rounded_26 rfl ?_
    refine r_iconst dX11_rounded_27 (by decide) ?_
    refine r_isub dX11_rounded_28 ?_
    refine r_lshl dX11_rounded_29 ?_
    refine r_lstore (ls2 := [some (vL x), none, some (vI (w32 (z1 - (24 : Int)))), some (vL (jshrL x (w32 (z1 - (24 : Int))))), none, some (vL (w64 (x - (jshlL (jshrL x (w32 (z1 - (24 : Int)))) (w32 (z1 - (24 : Int))))))), none, some (vL (jshlL (1 : Int) (w32 ((w32 (z1 - (24 : Int))) - (1 : Int))))), none, none]) dX11_rounded_30 (Nat.le_of_ble_eq_true rfl) rfl ?_
    refine r_lload dX11_rounded_32 rfl ?_
    refine r_lload dX11_rounded_34 rfl ?_
    refine r_lcmp dX11_rounded_36 ?_
    have K7 : Run (e + 1) mX11_rounded 61 [some (vL x), none, some (vI (w32 (z1 - (24 : Int)))), some (vL (jshrL x (w32 (z1 - (24 : Int))))), none, some (vL (w64 (x - (jshlL (jshrL x (w32 (z1 - (24 : Int)))) (w32 (z1 - (24 : Int))))))), none, some (vL (jshlL (1 : Int) (w32 ((w32 (z1 - (24 : Int))) - (1 : Int))))), none, none] [vI (if (0 : Int) < (jcmp (w64 (x - (jshlL (jshrL x (w32 (z1 - (24 : Int)))) (w32 (z1 - (24 : Int)))))) (jshlL (1 : Int) (w32 ((w32 (z1 - (24 : Int))) - (1 : Int))))) then (1 : Int) else (if (jcmp (w64 (x - (jshlL (jshrL x (w32 (z1 - (24 : Int)))) (w32 (z1 - (24 : Int)))))) (jshlL (1 : Int) (w32 ((w32 (z1 - (24 : Int))) - (1 : Int))))) ≠ (0 : Int) then (0 : Int) else (if (jcmp (jandL (jshrL x (w32 (z1 - (24 : Int)))) (1 : Int)) (1 : Int)) ≠ (0 : Int) then (0 : Int) else (1 : Int))))] M2 Q := by
      refine r_istore (ls2 := [some (vL x), none, some (vI (w32 (z1 - (24 : Int)))), some (vL (jshrL x (w32 (z1 - (24 : Int))))), none, some (vL (w64 (x - (jshlL (jshrL x (w32 (z1 - (24 : Int)))) (w32 (z1 - (24 : Int))))))), none, some (vL (jshlL (1 : Int) (w32 ((w32 (z1 - (24 : Int))) - (1 : Int))))), none, some (vI (if (0 : Int) < (jcmp (w64 (x - (jshlL (jshrL x (w32 (z1 - (24 : Int)))) (w32 (z1 - (24 : Int)))))) (jshlL (1 : Int) (w32 ((w32 (z1 - (24 : Int))) - (1 : Int))))) then (1 : Int) else (if (jcmp (w64 (x - (jshlL (jshrL x (w32 (z1 - (24 : Int)))) (w32 (z1 - (24 : Int)))))) (jshlL (1 : Int) (w32 ((w32 (z1 - (24 : Int))) - (1 : Int))))) ≠ (0 : Int) then (0 : Int) else (if (jcmp (jandL (jshrL x (w32 (z1 - (24 : Int)))) (1 : Int)) (1 : Int)) ≠ (0 : Int) then (0 : Int) else (1 : Int)))))]) dX11_rounded_61 (Nat.le_of_ble_eq_true rfl) rfl ?_
      refine r_iload dX11_rounded_63 rfl ?_
      have K8 : Run (e + 1) mX11_rounded 75 [some (vL x), none, some (vI (w32 (z1 - (24 : Int)))), some (vL (jshrL x (w32 (z1 - (24 : Int))))), none, some (vL (w64 (x - (jshlL (jshrL x (w32 (z1 - (24 : Int)))) (w32 (z1 - (24 : Int))))))), none, some (vL (jshlL (1 : Int) (w32 ((w32 (z1 - (24 : Int))) - (1 : Int))))), none, some (vI (if (0 : Int) < (jcmp (w64 (x - (jshlL (jshrL x (w32 (z1 - (24 : Int)))) (w32 (z1 - (24 : Int)))))) (jshlL (1 : Int) (w32 ((w32 (z1 - (24 : Int))) - (1 : Int))))) then (1 : Int) else (if (jcmp (w64 (x - (jshlL (jshrL x (w32 (z1 - (24 : Int)))) (w32 (z1 - (24 : Int)))))) (jshlL (1 : Int) (w32 ((w32 (z1 - (24 : Int))) - (1 : Int))))) ≠ (0 : Int) then (0 : Int) else (if (jcmp (jandL (jshrL x (w32 (z1 - (24 : Int)))) (1 : Int)) (1 : Int)) ≠ (0 : Int) then (0 : Int) else (1 : Int)))))] [vL (if (if (0 : Int) < (jcmp (w64 (x - (jshlL (jshrL x (w32 (z1 - (24 : Int)))) (w32 (z1 - (24 : Int)))))) (jshlL (1 : Int) (w32 ((w32 (z1 - (24 : Int))) - (1 : Int))))) then (1 : Int) else (if (jcmp (w64 (x - (jshlL (jshrL x (w32 (z1 - (24 : Int)))) (w32 (z1 - (24 : Int)))))) (jshlL (1 : Int) (w32 ((w32 (z1 - (24 : Int))) - (1 : Int))))) ≠ (0 : Int) then (0 : Int) else (if (jcmp (jandL (jshrL x (w32 (z1 - (24 : Int)))) (1 : Int)) (1 : Int)) ≠ (0 : Int) then (0 : Int) else (1 : Int)))) = (0 : Int) then jshrL x (w32 (z1 - (24 : Int))) else w64 ((jshrL x (w32 (z1 - (24 : Int)))) + (1 : Int)))] M2 Q := by
        refine r_iload_n dX11_rounded_75 rfl ?_
        refine r_lshl dX11_rounded_76 ?_
        exact r_lret dX11_rounded_77 rfl (h3.1 c6)
      refine r_if_eq dX11_rounded_65 rfl (fun q9 => ?_) (fun q9 => ?_)
      · rw [if_pos q9] at K8
        refine r_lload_n dX11_rounded_74 rfl ?_
        exact K8
      · rw [if_neg q9] at K8
        refine r_lload_n dX11_rounded_68 rfl ?_
        refine r_lconst1 dX11_rounded_69 ?_
        refine r_ladd dX11_rounded_70 ?_
        refine r_goto (tgt := 75) dX11_rounded_71 rfl ?_
        exact K8
    refine r_if_gt dX11_rounded_37 rfl (fun q11 => ?_) (fun q11 => ?_)
    · rw [if_pos q11] at K7
      refine r_iconst dX11_rounded_56 (by decide) ?_
      refine r_goto (tgt := 61) dX11_rounded_57 rfl ?_
      exact K7
    · rw [if_neg q11] at K7
      refine r_lload dX11_rounded_40 rfl ?_
      refine r_lload dX11_rounded_42 rfl ?_
      refine r_lcmp dX11_rounded_44 ?_
      refine r_if_ne dX11_rounded_45 rfl (fun q13 => ?_) (fun q13 => ?_)
      · rw [if_pos q13] at K7
        refine r_iconst dX11_rounded_60 (by decide) ?_
        exact K7
      · rw [if_neg q13] at K7
        refine r_lload_n dX11_rounded_48 rfl ?_
        refine r_lconst1 dX11_rounded_49 ?_
        refine r_land dX11_rounded_50 ?_
        refine r_lconst1 dX11_rounded_51 ?_
        refine r_lcmp dX11_rounded_52 ?_
        refine r_if_ne dX11_rounded_53 rfl (fun q15 => ?_) (fun q15 => ?_)
        · rw [if_pos q15] at K7
          refine r_iconst dX11_rounded_60 (by decide) ?_
          exact K7
        · rw [if_neg q15] at K7
          refine r_iconst dX11_rounded_56 (by decide) ?_
          refine r_goto (tgt := 61) dX11_rounded_57 rfl ?_
          exact K7
  · refine r_lload_n dX11_rounded_12 rfl ?_
    exact r_lret dX11_rounded_13 rfl (h3.2 c6)
theorem vm_asTold {e : Nat} {M : jM} {Q : Option jV → jM → Prop} {x : Int}  
  (h : Q (some (vI (w32 (if x < (2147483647 : Int) then x else (2147483647 : Int))))) M) :
  Call (e + 1) mX11_asTold [vL x] M Q := by
  show Run (e + 1) mX11_asTold 0 [some (vL x), none] [] M Q
  refine r_ldc2 dX11_asTold_0 kL11_338 ?_
  refine r_lload_n dX11_asTold_3 rfl ?_
  refine r_math3 dX11_asTold_4 (by decide) kX11_203 (Nat.le_of_ble_eq_true rfl) ?_
  refine r_l2i dX11_asTold_7 ?_
  exact r_iret dX11_asTold_8 rfl h
theorem vm_bounded {e : Nat} {M : jM} {Q : Option jV → jM → Prop} {x : Int}  
  (h : Q (some (vI (w32 (if (if x < (1000000 : Int) then x else (1000000 : Int)) < (-1000000 : Int) then (-1000000 : Int) else (if x < (1000000 : Int) then x else (1000000 : Int)))))) M) :
  Call (e + 1) mX11_bounded [vL x] M Q := by
  show Run (e + 1) mX11_bounded 0 [some (vL x), none] [] M Q
  refine r_ldc2 dX11_bounded_0 kL11_199 ?_
  refine r_ldc2 dX11_bounded_3 kL11_201 ?_
  refine r_lload_n dX11_bounded_6 rfl ?_
  refine r_math3 dX11_bounded_7 (by decide) kX11_203 (Nat.le_of_ble_eq_true rfl) ?_
  refine r_math1 dX11_bounded_10 (by decide) kX11_209 (Nat.le_of_ble_eq_true rfl) ?_
  refine r_l2i dX11_bounded_13 ?_
  exact r_iret dX11_bounded_14 rfl h
theorem vm_in {e : Nat} {M : jM} {Q : Option jV → jM → Prop} {x : Int} {y : Int} {z : Int}  
  (h : Q (some (vI (if x < y then (0 : Int) else (if z < x then (0 : Int) else (1 : Int))))) M) :
  Call (e + 1) mX11_in [vI x, vI y, vI z] M Q := by
  show Run (e + 1) mX11_in 0 [some (vI x), some (vI y), some (vI z)] [] M Q
  refine r_iload_n dX11_in_0 rfl ?_
  refine r_iload_n dX11_in_1 rfl ?_
  have K1 : Run (e + 1) mX11_in 15 [some (vI x), some (vI y), some (vI z)] [vI (if x < y then (0 : Int) else (if z < x then (0 : Int) else (1 : Int)))] M Q := by
    exact r_zret dX11_in_15 rfl (by (repeat' split) <;> first | exact Or.inl rfl | exact Or.inr rfl) h
  refine r_icmp_lt dX11_in_2 rfl (fun q2 => ?_) (fun q2 => ?_)
  · rw [if_pos q2] at K1
    refine r_iconst dX11_in_14 (by decide) ?_
    exact K1
  · rw [if_neg q2] at K1
    refine r_iload_n dX11_in_5 rfl ?_
    refine r_iload_n dX11_in_6 rfl ?_
    refine r_icmp_gt dX11_in_7 rfl (fun q4 => ?_) (fun q4 => ?_)
    · rw [if_pos q4] at K1
      refine r_iconst dX11_in_14 (by decide) ?_
      exact K1
    · rw [if_neg q4] at K1
      refine r_iconst dX11_in_10 (by decide) ?_
      refine r_goto (tgt := 15) dX11_in_11 rfl ?_
      exact K1
theorem vm_has {e : Nat} {M : jM} {Q : Option jV → jM → Prop} {x : Int} {y : Int}  
  (h : Q (some (vI (if (jand (jshr x y) (1 : Int)) ≠ (1 : Int) then (0 : Int) else (1 : Int)))) M) :
  Call (e + 1) mX11_has [vI x, vI y] M Q := by
  show Run (e + 1) mX11_has 0 [some (vI x), some (vI y)] [] M Q
  refine r_iload_n dX11_has_0 rfl ?_
  refine r_iload_n dX11_has_1 rfl ?_
  refine r_ishr dX11_has_2 ?_
  refine r_iconst dX11_has_3 (by decide) ?_
  refine r_iand dX11_has_4 ?_
  refine r_iconst dX11_has_5 (by decide) ?_
  have K1 : Run (e + 1) mX11_has 14 [some (vI x), some (vI y)] [vI (if (jand (jshr x y) (1 : Int)) ≠ (1 : Int) then (0 : Int) else (1 : Int))] M Q := by
    exact r_zret dX11_has_14 rfl (by (repeat' split) <;> first | exact Or.inl rfl | exact Or.inr rfl) h
  refine r_icmp_ne dX11_has_6 rfl (fun q2 => ?_) (fun q2 => ?_)
  · rw [if_pos q2] at K1
    refine r_iconst dX11_has_13 (by decide) ?_
    exact K1
  · rw [if_neg q2] at K1
    refine r_iconst dX11_has_9 (by decide) ?_
    refine r_goto (tgt := 14) dX11_has_10 rfl ?_
    exact K1
theorem vm_goesInto {e : Nat} {M : jM} {Q : Option jV → jM → Prop} {x : Int} {y : Int}  
  (h : Q (some (vI (if x = (0 : Int) then (1 : Int) else (if x ≠ (1 : Int) then (if y ≠ (2 : Int) then (0 : Int) else (1 : Int)) else (if (2 : Int) ≤ y then (0 : Int) else (1 : Int)))))) M) :
  Call (e + 1) mX11_goesInto [vI x, vI y] M Q := by
  show Run (e + 1) mX11_goesInto 0 [some (vI x), some (vI y)] [] M Q
  refine r_iload_n dX11_goesInto_0 rfl ?_
  have K1 : Run (e + 1) mX11_goesInto 27 [some (vI x), some (vI y)] [vI (if x = (0 : Int) then (1 : Int) else (if x ≠ (1 : Int) then (if y ≠ (2 : Int) then (0 : Int) else (1 : Int)) else (if (2 : Int) ≤ y then (0 : Int) else (1 : Int))))] M Q := by
    exact r_zret dX11_goesInto_27 rfl (by (repeat' split) <;> first | exact Or.inl rfl | exact Or.inr rfl) h
  refine r_if_eq dX11_goesInto_1 rfl (fun q2 => ?_) (fun q2 => ?_)
  · rw [if_pos q2] at K1
    refine r_iconst dX11_goesInto_22 (by decide) ?_
    refine r_goto (tgt := 27) dX11_goesInto_23 rfl ?_
    exact K1
  · rw [if_neg q2] at K1
    refine r_iload_n dX11_goesInto_4 rfl ?_
    refine r_iconst dX11_goesInto_5 (by decide) ?_
    refine r_icmp_ne dX11_goesInto_6 rfl (fun q4 => ?_) (fun q4 => ?_)
    · rw [if_pos q4] at K1
      refine r_iload_n dX11_goesInto_17 rfl ?_
      refine r_iconst dX11_goesInto_18 (by decide) ?_
      refine r_icmp_ne dX11_goesInto_19 rfl (fun q6 => ?_) (fun q6 => ?_)
      · rw [if_pos q6] at K1
        refine r_iconst dX11_goesInto_26 (by decide) ?_
        exact K1
      · rw [if_neg q6] at K1
        refine r_iconst dX11_goesInto_22 (by decide) ?_
        refine r_goto (tgt := 27) dX11_goesInto_23 rfl ?_
        exact K1
    · rw [if_neg q4] at K1
      refine r_iload_n dX11_goesInto_9 rfl ?_
      refine r_iconst dX11_goesInto_10 (by decide) ?_
      refine r_icmp_ge dX11_goesInto_11 rfl (fun q8 => ?_) (fun q8 => ?_)
      · rw [if_pos q8] at K1
        refine r_iconst dX11_goesInto_26 (by decide) ?_
        exact K1
      · rw [if_neg q8] at K1
        refine r_goto (tgt := 22) dX11_goesInto_14 rfl ?_
        refine r_iconst dX11_goesInto_22 (by decide) ?_
        refine r_goto (tgt := 27) dX11_goesInto_23 rfl ?_
        exact K1
theorem vm_isDigit {e : Nat} {M : jM} {Q : Option jV → jM → Prop} {x : Int}  
  (h : Q (some (vI (if x < (48 : Int) then (0 : Int) else (if (57 : Int) < x then (0 : Int) else (1 : Int))))) M) :
  Call (e + 1) mX11_isDigit [vI x] M Q := by
  show Run (e + 1) mX11_isDigit 0 [some (vI x)] [] M Q
  refine r_iload_n dX11_isDigit_0 rfl ?_
  refine r_bipush dX11_isDigit_1 (by decide) ?_
  have K1 : Run (e + 1) mX11_isDigit 17 [some (vI x)] [vI (if x < (48 : Int) then (0 : Int) else (if (57 : Int) < x then (0 : Int) else (1 : Int)))] M Q := by
    exact r_zret dX11_isDigit_17 rfl (by (repeat' split) <;> first | exact Or.inl rfl | exact Or.inr rfl) h
  refine r_icmp_lt dX11_isDigit_3 rfl (fun q2 => ?_) (fun q2 => ?_)
  · rw [if_pos q2] at K1
    refine r_iconst dX11_isDigit_16 (by decide) ?_
    exact K1
  · rw [if_neg q2] at K1
    refine r_iload_n dX11_isDigit_6 rfl ?_
    refine r_bipush dX11_isDigit_7 (by decide) ?_
    refine r_icmp_gt dX11_isDigit_9 rfl (fun q4 => ?_) (fun q4 => ?_)
    · rw [if_pos q4] at K1
      refine r_iconst dX11_isDigit_16 (by decide) ?_
      exact K1
    · rw [if_neg q4] at K1
      refine r_iconst dX11_isDigit_12 (by decide) ?_
      refine r_goto (tgt := 17) dX11_isDigit_13 rfl ?_
      exact K1
theorem vm_isSign {e : Nat} {M : jM} {Q : Option jV → jM → Prop} {x : Int}  
  (h : Q (some (vI (if x = (61 : Int) then (1 : Int) else (if x = (60 : Int) then (1 : Int) else (if x ≠ (62 : Int) then (0 : Int) else (1 : Int)))))) M) :
  Call (e + 1) mX11_isSign [vI x] M Q := by
  show Run (e + 1) mX11_isSign 0 [some (vI x)] [] M Q
  refine r_iload_n dX11_isSign_0 rfl ?_
  refine r_bipush dX11_isSign_1 (by decide) ?_
  have K1 : Run (e + 1) mX11_isSign 23 [some (vI x)] [vI (if x = (61 : Int) then (1 : Int) else (if x = (60 : Int) then (1 : Int) else (if x ≠ (62 : Int) then (0 : Int) else (1 : Int))))] M Q := by
    exact r_zret dX11_isSign_23 rfl (by (repeat' split) <;> first | exact Or.inl rfl | exact Or.inr rfl) h
  refine r_icmp_eq dX11_isSign_3 rfl (fun q2 => ?_) (fun q2 => ?_)
  · rw [if_pos q2] at K1
    refine r_iconst dX11_isSign_18 (by decide) ?_
    refine r_goto (tgt := 23) dX11_isSign_19 rfl ?_
    exact K1
  · rw [if_neg q2] at K1
    refine r_iload_n dX11_isSign_6 rfl ?_
    refine r_bipush dX11_isSign_7 (by decide) ?_
    refine r_icmp_eq dX11_isSign_9 rfl (fun q4 => ?_) (fun q4 => ?_)
    · rw [if_pos q4] at K1
      refine r_iconst dX11_isSign_18 (by decide) ?_
      refine r_goto (tgt := 23) dX11_isSign_19 rfl ?_
      exact K1
    · rw [if_neg q4] at K1
      refine r_iload_n dX11_isSign_12 rfl ?_
      refine r_bipush dX11_isSign_13 (by decide) ?_
      refine r_icmp_ne dX11_isSign_15 rfl (fun q6 => ?_) (fun q6 => ?_)
      · rw [if_pos q6] at K1
        refine r_iconst dX11_isSign_22 (by decide) ?_
        exact K1
      · rw [if_neg q6] at K1
        refine r_iconst dX11_isSign_18 (by decide) ?_
        refine r_goto (tgt := 23) dX11_isSign_19 rfl ?_
        exact K1
theorem vm_letterOf {e : Nat} {M : jM} {Q : Option jV → jM → Prop} {x : Int}  
  (h : Q (some (vI (if x ≠ (115 : Int) then (if x ≠ (107 : Int) then (if x ≠ (97 : Int) then (if x ≠ (100 : Int) then (if x ≠ (119 : Int) then (if x ≠ (104 : Int) then (-1 : Int) else (5 : Int)) else (4 : Int)) else (3 : Int)) else (2 : Int)) else (1 : Int)) else (0 : Int)))) M) :
  Call (e + 1) mX11_letterOf [vI x] M Q := by
  show Run (e + 1) mX11_letterOf 0 [some (vI x)] [] M Q
  refine r_iload_n dX11_letterOf_0 rfl ?_
  refine r_bipush dX11_letterOf_1 (by decide) ?_
  have K1 : Run (e + 1) mX11_letterOf 61 [some (vI x)] [vI (if x ≠ (115 : Int) then (if x ≠ (107 : Int) then (if x ≠ (97 : Int) then (if x ≠ (100 : Int) then (if x ≠ (119 : Int) then (if x ≠ (104 : Int) then (-1 : Int) else (5 : Int)) else (4 : Int)) else (3 : Int)) else (2 : Int)) else (1 : Int)) else (0 : Int))] M Q := by
    exact r_iret dX11_letterOf_61 rfl h
  refine r_icmp_ne dX11_letterOf_3 rfl (fun q2 => ?_) (fun q2 => ?_)
  · rw [if_pos q2] at K1
    refine r_iload_n dX11_letterOf_10 rfl ?_
    refine r_bipush dX11_letterOf_11 (by decide) ?_
    refine r_icmp_ne dX11_letterOf_13 rfl (fun q4 => ?_) (fun q4 => ?_)
    · rw [if_pos q4] at K1
      refine r_iload_n dX11_letterOf_20 rfl ?_
      refine r_bipush dX11_letterOf_21 (by decide) ?_
      refine r_icmp_ne dX11_letterOf_23 rfl (fun q6 => ?_) (fun q6 => ?_)
      · rw [if_pos q6] at K1
        refine r_iload_n dX11_letterOf_30 rfl ?_
        refine r_bipush dX11_letterOf_31 (by decide) ?_
        refine r_icmp_ne dX11_letterOf_33 rfl (fun q8 => ?_) (fun q8 => ?_)
        · rw [if_pos q8] at K1
          refine r_iload_n dX11_letterOf_40 rfl ?_
          refine r_bipush dX11_letterOf_41 (by decide) ?_
          refine r_icmp_ne dX11_letterOf_43 rfl (fun q10 => ?_) (fun q10 => ?_)
          · rw [if_pos q10] at K1
            refine r_iload_n dX11_letterOf_50 rfl ?_
            refine r_bipush dX11_letterOf_51 (by decide) ?_
            refine r_icmp_ne dX11_letterOf_53 rfl (fun q12 => ?_) (fun q12 => ?_)
            · rw [if_pos q12] at K1
              refine r_iconst dX11_letterOf_60 (by decide) ?_
              exact K1
            · rw [if_neg q12] at K1
              refine r_iconst dX11_letterOf_56 (by decide) ?_
              refine r_goto (tgt := 61) dX11_letterOf_57 rfl ?_
              exact K1
          · rw [if_neg q10] at K1
            refine r_iconst dX11_letterOf_46 (by decide) ?_
            refine r_goto (tgt := 61) dX11_letterOf_47 rfl ?_
            exact K1
        · rw [if_neg q8] at K1
          refine r_iconst dX11_letterOf_36 (by decide) ?_
          refine r_goto (tgt := 61) dX11_letterOf_37 rfl ?_
          exact K1
      · rw [if_neg q6] at K1
        refine r_iconst dX11_letterOf_26 (by decide) ?_
        refine r_goto (tgt := 61) dX11_letterOf_27 rfl ?_
        exact K1
    · rw [if_neg q4] at K1
      refine r_iconst dX11_letterOf_16 (by decide) ?_
      refine r_goto (tgt := 61) dX11_letterOf_17 rfl ?_
      exact K1
  · rw [if_neg q2] at K1
    refine r_iconst dX11_letterOf_6 (by decide) ?_
    refine r_goto (tgt := 61) dX11_letterOf_7 rfl ?_
    exact K1
theorem vm_itemOf {e : Nat} {M : jM} {Q : Option jV → jM → Prop} {x : Int} {y : Int}  
  (h : (x = 112 → (Q (some (vI (if y ≠ (98 : Int) then (if y ≠ (100 : Int) then (if y ≠ (109 : Int) then (-1 : Int) else (2 : Int)) else (1 : Int)) else (0 : Int)))) M)) ∧ (x = 115 → (Q (some (vI (if y ≠ (119 : Int) then (if y ≠ (103 : Int) then (if y ≠ (98 : Int) then (if y ≠ (107 : Int) then (-1 : Int) else (3 : Int)) else (2 : Int)) else (1 : Int)) else (0 : Int)))) M)) ∧ ((x ≠ 112 ∧ x ≠ 115) → (Q (some (vI (if y ≠ (97 : Int) then (if y ≠ (111 : Int) then (if y ≠ (107 : Int) then (if y ≠ (115 : Int) then (-1 : Int) else (3 : Int)) else (2 : Int)) else (1 : Int)) else (0 : Int)))) M))) :
  Call (e + 1) mX11_itemOf [vI x, vI y] M Q := by
  show Run (e + 1) mX11_itemOf 0 [some (vI x), some (vI y)] [] M Q
  refine r_iload_n dX11_itemOf_0 rfl ?_
  by_cases c1_0 : x = 112
  · refine r_look_eq (tgt := 70) (o := 69) dX11_itemOf_1 c1_0 rfl (by decide) rfl ?_
    refine r_iload_n dX11_itemOf_70 rfl ?_
    refine r_bipush dX11_itemOf_71 (by decide) ?_
    have K2 : Run (e + 1) mX11_itemOf 101 [some (vI x), some (vI y)] [vI (if y ≠ (98 : Int) then (if y ≠ (100 : Int) then (if y ≠ (109 : Int) then (-1 : Int) else (2 : Int)) else (1 : Int)) else (0 : Int))] M Q := by
      exact r_iret dX11_itemOf_101 rfl (h.1 c1_0)
    refine r_icmp_ne dX11_itemOf_73 rfl (fun q3 => ?_) (fun q3 => ?_)
    · rw [if_pos q3] at K2
      refine r_iload_n dX11_itemOf_80 rfl ?_
      refine r_bipush dX11_itemOf_81 (by decide) ?_
      refine r_icmp_ne dX11_itemOf_83 rfl (fun q5 => ?_) (fun q5 => ?_)
      · rw [if_pos q5] at K2
        refine r_iload_n dX11_itemOf_90 rfl ?_
        refine r_bipush dX11_itemOf_91 (by decide) ?_
        refine r_icmp_ne dX11_itemOf_93 rfl (fun q7 => ?_) (fun q7 => ?_)
        · rw [if_pos q7] at K2
          refine r_iconst dX11_itemOf_100 (by decide) ?_
          exact K2
        · rw [if_neg q7] at K2
          refine r_iconst dX11_itemOf_96 (by decide) ?_
          refine r_goto (tgt := 101) dX11_itemOf_97 rfl ?_
          exact K2
      · rw [if_neg q5] at K2
        refine r_iconst dX11_itemOf_86 (by decide) ?_
        refine r_goto (tgt := 101) dX11_itemOf_87 rfl ?_
        exact K2
    · rw [if_neg q3] at K2
      refine r_iconst dX11_itemOf_76 (by decide) ?_
      refine r_goto (tgt := 101) dX11_itemOf_77 rfl ?_
      exact K2
  by_cases c1_1 : x = 115
  · refine r_look_eq (tgt := 28) (o := 27) dX11_itemOf_1 c1_1 rfl (by decide) rfl ?_
    refine r_iload_n dX11_itemOf_28 rfl ?_
    refine r_bipush dX11_itemOf_29 (by decide) ?_
    have K9 : Run (e + 1) mX11_itemOf 69 [some (vI x), some (vI y)] [vI (if y ≠ (119 : Int) then (if y ≠ (103 : Int) then (if y ≠ (98 : Int) then (if y ≠ (107 : Int) then (-1 : Int) else (3 : Int)) else (2 : Int)) else (1 : Int)) else (0 : Int))] M Q := by
      exact r_iret dX11_itemOf_69 rfl (h.2.1 c1_1)
    refine r_icmp_ne dX11_itemOf_31 rfl (fun q10 => ?_) (fun q10 => ?_)
    · rw [if_pos q10] at K9
      refine r_iload_n dX11_itemOf_38 rfl ?_
      refine r_bipush dX11_itemOf_39 (by decide) ?_
      refine r_icmp_ne dX11_itemOf_41 rfl (fun q12 => ?_) (fun q12 => ?_)
      · rw [if_pos q12] at K9
        refine r_iload_n dX11_itemOf_48 rfl ?_
        refine r_bipush dX11_itemOf_49 (by decide) ?_
        refine r_icmp_ne dX11_itemOf_51 rfl (fun q14 => ?_) (fun q14 => ?_)
        · rw [if_pos q14] at K9
          refine r_iload_n dX11_itemOf_58 rfl ?_
          refine r_bipush dX11_itemOf_59 (by decide) ?_
          refine r_icmp_ne dX11_itemOf_61 rfl (fun q16 => ?_) (fun q16 => ?_)
          · rw [if_pos q16] at K9
            refine r_iconst dX11_itemOf_68 (by decide) ?_
            exact K9
          · rw [if_neg q16] at K9
            refine r_iconst dX11_itemOf_64 (by decide) ?_
            refine r_goto (tgt := 69) dX11_itemOf_65 rfl ?_
            exact K9
        · rw [if_neg q14] at K9
          refine r_iconst dX11_itemOf_54 (by decide) ?_
          refine r_goto (tgt := 69) dX11_itemOf_55 rfl ?_
          exact K9
      · rw [if_neg q12] at K9
        refine r_iconst dX11_itemOf_44 (by decide) ?_
        refine r_goto (tgt := 69) dX11_itemOf_45 rfl ?_
        exact K9
    · rw [if_neg q10] at K9
      refine r_iconst dX11_itemOf_34 (by decide) ?_
      refine r_goto (tgt := 69) dX11_itemOf_35 rfl ?_
      exact K9
  refine r_look (tgt := 102) (o := 101) dX11_itemOf_1 rfl (by simp [Op.lookupswitch.offset, Ne.symm c1_0, Ne.symm c1_1]) rfl ?_
  refine r_iload_n dX11_itemOf_102 rfl ?_
  refine r_bipush dX11_itemOf_103 (by decide) ?_
  have K18 : Run (e + 1) mX11_itemOf 143 [some (vI x), some (vI y)] [vI (if y ≠ (97 : Int) then (if y ≠ (111 : Int) then (if y ≠ (107 : Int) then (if y ≠ (115 : Int) then (-1 : Int) else (3 : Int)) else (2 : Int)) else (1 : Int)) else (0 : Int))] M Q := by
    exact r_iret dX11_itemOf_143 rfl (h.2.2 ⟨c1_0, c1_1⟩)
  refine r_icmp_ne dX11_itemOf_105 rfl (fun q19 => ?_) (fun q19 => ?_)
  · rw [if_pos q19] at K18
    refine r_iload_n dX11_itemOf_112 rfl ?_
    refine r_bipush dX11_itemOf_113 (by decide) ?_
    refine r_icmp_ne dX11_itemOf_115 rfl (fun q21 => ?_) (fun q21 => ?_)
    · rw [if_pos q21] at K18
      refine r_iload_n dX11_itemOf_122 rfl ?_
      refine r_bipush dX11_itemOf_123 (by decide) ?_
      refine r_icmp_ne dX11_itemOf_125 rfl (fun q23 => ?_) (fun q23 => ?_)
      · rw [if_pos q23] at K18
        refine r_iload_n dX11_itemOf_132 rfl ?_
        refine r_bipush dX11_itemOf_133 (by decide) ?_
        refine r_icmp_ne dX11_itemOf_135 rfl (fun q25 => ?_) (fun q25 => ?_)
        · rw [if_pos q25] at K18
          refine r_iconst dX11_itemOf_142 (by decide) ?_
          exact K18
        · rw [if_neg q25] at K18
          refine r_iconst dX11_itemOf_138 (by decide) ?_
          refine r_goto (tgt := 143) dX11_itemOf_139 rfl ?_
          exact K18
      · rw [if_neg q23] at K18
        refine r_iconst dX11_itemOf_128 (by decide) ?_
        refine r_goto (tgt := 143) dX11_itemOf_129 rfl ?_
        exact K18
    · rw [if_neg q21] at K18
      refine r_iconst dX11_itemOf_118 (by decide) ?_
      refine r_goto (tgt := 143) dX11_itemOf_119 rfl ?_
      exact K18
  · rw [if_neg q19] at K18
    refine r_iconst dX11_itemOf_108 (by decide) ?_
    refine r_goto (tgt := 143) dX11_itemOf_109 rfl ?_
    exact K18
theorem vm_lowest {e : Nat} {M : jM} {Q : Option jV → jM → Prop} {x : Int} {y : Int}  
  (h : (x = 112 → (Q (some (vI (if y ≠ (2 : Int) then (1 : Int) else (0 : Int)))) M)) ∧ (x = 115 → (Q (some (vI (if y = (1 : Int) then (1 : Int) else (if y ≠ (2 : Int) then (0 : Int) else (1 : Int))))) M)) ∧ ((x ≠ 112 ∧ x ≠ 115) → (Q (some (vI (if y ≠ (3 : Int) then (0 : Int) else (1 : Int)))) M))) :
  Call (e + 1) mX11_lowest [vI x, vI y] M Q := by
  show Run (e + 1) mX11_lowest 0 [some (vI x), some (vI y)] [] M Q
  refine r_iload_n dX11_lowest_0 rfl ?_
  by_cases c1_0 : x = 112
  · refine r_look_eq (tgt := 44) (o := 43) dX11_lowest_1 c1_0 rfl (by decide) rfl ?_
    refine r_iload_n dX11_lowest_44 rfl ?_
    refine r_iconst dX11_lowest_45 (by decide) ?_
    have K2 : Run (e + 1) mX11_lowest 54 [some (vI x), some (vI y)] [vI (if y ≠ (2 : Int) then (1 : Int) else (0 : Int))] M Q := by
      exact r_iret dX11_lowest_54 rfl (h.1 c1_0)
    refine r_icmp_ne dX11_lowest_46 rfl (fun q3 => ?_) (fun q3 => ?_)
    · rw [if_pos q3] at K2
      refine r_iconst dX11_lowest_53 (by decide) ?_
      exact K2
    · rw [if_neg q3] at K2
      refine r_iconst dX11_lowest_49 (by decide) ?_
      refine r_goto (tgt := 54) dX11_lowest_50 rfl ?_
      exact K2
  by_cases c1_1 : x = 115
  · refine r_look_eq (tgt := 28) (o := 27) dX11_lowest_1 c1_1 rfl (by decide) rfl ?_
    refine r_iload_n dX11_lowest_28 rfl ?_
    refine r_iconst dX11_lowest_29 (by decide) ?_
    have K5 : Run (e + 1) mX11_lowest 43 [some (vI x), some (vI y)] [vI (if y = (1 : Int) then (1 : Int) else (if y ≠ (2 : Int) then (0 : Int) else (1 : Int)))] M Q := by
      exact r_iret dX11_lowest_43 rfl (h.2.1 c1_1)
    refine r_icmp_eq dX11_lowest_30 rfl (fun q6 => ?_) (fun q6 => ?_)
    · rw [if_pos q6] at K5
      refine r_iconst dX11_lowest_38 (by decide) ?_
      refine r_goto (tgt := 43) dX11_lowest_39 rfl ?_
      exact K5
    · rw [if_neg q6] at K5
      refine r_iload_n dX11_lowest_33 rfl ?_
      refine r_iconst dX11_lowest_34 (by decide) ?_
      refine r_icmp_ne dX11_lowest_35 rfl (fun q8 => ?_) (fun q8 => ?_)
      · rw [if_pos q8] at K5
        refine r_iconst dX11_lowest_42 (by decide) ?_
        exact K5
      · rw [if_neg q8] at K5
        refine r_iconst dX11_lowest_38 (by decide) ?_
        refine r_goto (tgt := 43) dX11_lowest_39 rfl ?_
        exact K5
  refine r_look (tgt := 55) (o := 54) dX11_lowest_1 rfl (by simp [Op.lookupswitch.offset, Ne.symm c1_0, Ne.symm c1_1]) rfl ?_
  refine r_iload_n dX11_lowest_55 rfl ?_
  refine r_iconst dX11_lowest_56 (by decide) ?_
  have K10 : Run (e + 1) mX11_lowest 65 [some (vI x), some (vI y)] [vI (if y ≠ (3 : Int) then (0 : Int) else (1 : Int))] M Q := by
    exact r_iret dX11_lowest_65 rfl (h.2.2 ⟨c1_0, c1_1⟩)
  refine r_icmp_ne dX11_lowest_57 rfl (fun q11 => ?_) (fun q11 => ?_)
  · rw [if_pos q11] at K10
    refine r_iconst dX11_lowest_64 (by decide) ?_
    exact K10
  · rw [if_neg q11] at K10
    refine r_iconst dX11_lowest_60 (by decide) ?_
    refine r_goto (tgt := 65) dX11_lowest_61 rfl ?_
    exact K10
theorem vm_highest {e : Nat} {M : jM} {Q : Option jV → jM → Prop} {x : Int} {y : Int}  
  (h : (x = 112 → (Q (some (vI (if y ≠ (2 : Int) then (99 : Int) else (2 : Int)))) M)) ∧ (x = 115 → (Q (some (vI (if y ≠ (0 : Int) then (99 : Int) else (9 : Int)))) M)) ∧ ((x ≠ 112 ∧ x ≠ 115) → (Q (some (vI (if y ≠ (2 : Int) then (if y ≠ (3 : Int) then (7 : Int) else (9 : Int)) else (2 : Int)))) M))) :
  Call (e + 1) mX11_highest [vI x, vI y] M Q := by
  show Run (e + 1) mX11_highest 0 [some (vI x), some (vI y)] [] M Q
  refine r_iload_n dX11_highest_0 rfl ?_
  by_cases c1_0 : x = 112
  · refine r_look_eq (tgt := 40) (o := 39) dX11_highest_1 c1_0 rfl (by decide) rfl ?_
    refine r_iload_n dX11_highest_40 rfl ?_
    refine r_iconst dX11_highest_41 (by decide) ?_
    have K2 : Run (e + 1) mX11_highest 51 [some (vI x), some (vI y)] [vI (if y ≠ (2 : Int) then (99 : Int) else (2 : Int))] M Q := by
      exact r_iret dX11_highest_51 rfl (h.1 c1_0)
    refine r_icmp_ne dX11_highest_42 rfl (fun q3 => ?_) (fun q3 => ?_)
    · rw [if_pos q3] at K2
      refine r_bipush dX11_highest_49 (by decide) ?_
      exact K2
    · rw [if_neg q3] at K2
      refine r_iconst dX11_highest_45 (by decide) ?_
      refine r_goto (tgt := 51) dX11_highest_46 rfl ?_
      exact K2
  by_cases c1_1 : x = 115
  · refine r_look_eq (tgt := 28) (o := 27) dX11_highest_1 c1_1 rfl (by decide) rfl ?_
    refine r_iload_n dX11_highest_28 rfl ?_
    have K5 : Run (e + 1) mX11_highest 39 [some (vI x), some (vI y)] [vI (if y ≠ (0 : Int) then (99 : Int) else (9 : Int))] M Q := by
      exact r_iret dX11_highest_39 rfl (h.2.1 c1_1)
    refine r_if_ne dX11_highest_29 rfl (fun q6 => ?_) (fun q6 => ?_)
    · rw [if_pos q6] at K5
      refine r_bipush dX11_highest_37 (by decide) ?_
      exact K5
    · rw [if_neg q6] at K5
      refine r_bipush dX11_highest_32 (by decide) ?_
      refine r_goto (tgt := 39) dX11_highest_34 rfl ?_
      exact K5
  refine r_look (tgt := 52) (o := 51) dX11_highest_1 rfl (by simp [Op.lookupswitch.offset, Ne.symm c1_0, Ne.symm c1_1]) rfl ?_
  refine r_iload_n dX11_highest_52 rfl ?_
  refine r_iconst dX11_highest_53 (by decide) ?_
  have K8 : Run (e + 1) mX11_highest 73 [some (vI x), some (vI y)] [vI (if y ≠ (2 : Int) then (if y ≠ (3 : Int) then (7 : Int) else (9 : Int)) else (2 : Int))] M Q := by
    exact r_iret dX11_highest_73 rfl (h.2.2 ⟨c1_0, c1_1⟩)
  refine r_icmp_ne dX11_highest_54 rfl (fun q9 => ?_) (fun q9 => ?_)
  · rw [if_pos q9] at K8
    refine r_iload_n dX11_highest_61 rfl ?_
    refine r_iconst dX11_highest_62 (by decide) ?_
    refine r_icmp_ne dX11_highest_63 rfl (fun q11 => ?_) (fun q11 => ?_)
    · rw [if_pos q11] at K8
      refine r_bipush dX11_highest_71 (by decide) ?_
      exact K8
    · rw [if_neg q11] at K8
      refine r_bipush dX11_highest_66 (by decide) ?_
      refine r_goto (tgt := 73) dX11_highest_68 rfl ?_
      exact K8
  · rw [if_neg q9] at K8
    refine r_iconst dX11_highest_57 (by decide) ?_
    refine r_goto (tgt := 73) dX11_highest_58 rfl ?_
    exact K8
theorem vm_usual {e : Nat} {M : jM} {Q : Option jV → jM → Prop} {x : Int} {y : Int}  
  (h : (x = 112 → (Q (some (vI (if y ≠ (0 : Int) then (if y ≠ (1 : Int) then (0 : Int) else (10 : Int)) else (9 : Int)))) M)) ∧ (x = 115 → (Q (some (vI (if y ≠ (0 : Int) then (if y ≠ (1 : Int) then (if y ≠ (2 : Int) then (20 : Int) else (60 : Int)) else (40 : Int)) else (3 : Int)))) M)) ∧ ((x ≠ 112 ∧ x ≠ 115) → (Q (some (vI (if y ≠ (1 : Int) then (if y ≠ (3 : Int) then (0 : Int) else (3 : Int)) else (1 : Int)))) M))) :
  Call (e + 1) mX11_usual [vI x, vI y] M Q := by
  show Run (e + 1) mX11_usual 0 [some (vI x), some (vI y)] [] M Q
  refine r_iload_n dX11_usual_0 rfl ?_
  by_cases c1_0 : x = 112
  · refine r_look_eq (tgt := 59) (o := 58) dX11_usual_1 c1_0 rfl (by decide) rfl ?_
    refine r_iload_n dX11_usual_59 rfl ?_
    have K2 : Run (e + 1) mX11_usual 79 [some (vI x), some (vI y)] [vI (if y ≠ (0 : Int) then (if y ≠ (1 : Int) then (0 : Int) else (10 : Int)) else (9 : Int))] M Q := by
      exact r_iret dX11_usual_79 rfl (h.1 c1_0)
    refine r_if_ne dX11_usual_60 rfl (fun q3 => ?_) (fun q3 => ?_)
    · rw [if_pos q3] at K2
      refine r_iload_n dX11_usual_68 rfl ?_
      refine r_iconst dX11_usual_69 (by decide) ?_
      refine r_icmp_ne dX11_usual_70 rfl (fun q5 => ?_) (fun q5 => ?_)
      · rw [if_pos q5] at K2
        refine r_iconst dX11_usual_78 (by decide) ?_
        exact K2
      · rw [if_neg q5] at K2
        refine r_bipush dX11_usual_73 (by decide) ?_
        refine r_goto (tgt := 79) dX11_usual_75 rfl ?_
        exact K2
    · rw [if_neg q3] at K2
      refine r_bipush dX11_usual_63 (by decide) ?_
      refine r_goto (tgt := 79) dX11_usual_65 rfl ?_
      exact K2
  by_cases c1_1 : x = 115
  · refine r_look_eq (tgt := 28) (o := 27) dX11_usual_1 c1_1 rfl (by decide) rfl ?_
    refine r_iload_n dX11_usual_28 rfl ?_
    have K7 : Run (e + 1) mX11_usual 58 [some (vI x), some (vI y)] [vI (if y ≠ (0 : Int) then (if y ≠ (1 : Int) then (if y ≠ (2 : Int) then (20 : Int) else (60 : Int)) else (40 : Int)) else (3 : Int))] M Q := by
      exact r_iret dX11_usual_58 rfl (h.2.1 c1_1)
    refine r_if_ne dX11_usual_29 rfl (fun q8 => ?_) (fun q8 => ?_)
    · rw [if_pos q8] at K7
      refine r_iload_n dX11_usual_36 rfl ?_
      refine r_iconst dX11_usual_37 (by decide) ?_
      refine r_icmp_ne dX11_usual_38 rfl (fun q10 => ?_) (fun q10 => ?_)
      · rw [if_pos q10] at K7
        refine r_iload_n dX11_usual_46 rfl ?_
        refine r_iconst dX11_usual_47 (by decide) ?_
        refine r_icmp_ne dX11_usual_48 rfl (fun q12 => ?_) (fun q12 => ?_)
        · rw [if_pos q12] at K7
          refine r_bipush dX11_usual_56 (by decide) ?_
          exact K7
        · rw [if_neg q12] at K7
          refine r_bipush dX11_usual_51 (by decide) ?_
          refine r_goto (tgt := 58) dX11_usual_53 rfl ?_
          exact K7
      · rw [if_neg q10] at K7
        refine r_bipush dX11_usual_41 (by decide) ?_
        refine r_goto (tgt := 58) dX11_usual_43 rfl ?_
        exact K7
    · rw [if_neg q8] at K7
      refine r_iconst dX11_usual_32 (by decide) ?_
      refine r_goto (tgt := 58) dX11_usual_33 rfl ?_
      exact K7
  refine r_look (tgt := 80) (o := 79) dX11_usual_1 rfl (by simp [Op.lookupswitch.offset, Ne.symm c1_0, Ne.symm c1_1]) rfl ?_
  refine r_iload_n dX11_usual_80 rfl ?_
  refine r_iconst dX11_usual_81 (by decide) ?_
  have K14 : Run (e + 1) mX11_usual 99 [some (vI x), some (vI y)] [vI (if y ≠ (1 : Int) then (if y ≠ (3 : Int) then (0 : Int) else (3 : Int)) else (1 : Int))] M Q := by
    exact r_iret dX11_usual_99 rfl (h.2.2 ⟨c1_0, c1_1⟩)
  refine r_icmp_ne dX11_usual_82 rfl (fun q15 => ?_) (fun q15 => ?_)
  · rw [if_pos q15] at K14
    refine r_iload_n dX11_usual_89 rfl ?_
    refine r_iconst dX11_usual_90 (by decide) ?_
    refine r_icmp_ne dX11_usual_91 rfl (fun q17 => ?_) (fun q17 => ?_)
    · rw [if_pos q17] at K14
      refine r_iconst dX11_usual_98 (by decide) ?_
      exact K14
    · rw [if_neg q17] at K14
      refine r_iconst dX11_usual_94 (by decide) ?_
      refine r_goto (tgt := 99) dX11_usual_95 rfl ?_
      exact K14
  · rw [if_neg q15] at K14
    refine r_iconst dX11_usual_85 (by decide) ?_
    refine r_goto (tgt := 99) dX11_usual_86 rfl ?_
    exact K14
theorem vm_byteOf {e : Nat} {M : jM} {Q : Option jV → jM → Prop} {x : Int} {y : Int} {z : Int} {u : Int} {v : Int} {w : Int}  
  (h : Q (some (vI (jand (jshr (if (4 : Int) ≤ w then (if (8 : Int) ≤ w then (if (12 : Int) ≤ w then (if (16 : Int) ≤ w then v else u) else z) else y) else x) (w32 ((24 : Int) - (w32 ((8 : Int) * (jrem w (4 : Int))))))) (255 : Int)))) M) :
  Call (e + 1) mX11_byteOf [vI x, vI y, vI z, vI u, vI v, vI w] M Q := by
  show Run (e + 1) mX11_byteOf 0 [some (vI x), some (vI y), some (vI z), some (vI u), some (vI v), some (vI w), none] [] M Q
  refine r_iload dX11_byteOf_0 rfl ?_
  refine r_iconst dX11_byteOf_2 (by decide) ?_
  have K1 : Run (e + 1) mX11_byteOf 45 [some (vI x), some (vI y), some (vI z), some (vI u), some (vI v), some (vI w), none] [vI (if (4 : Int) ≤ w then (if (8 : Int) ≤ w then (if (12 : Int) ≤ w then (if (16 : Int) ≤ w then v else u) else z) else y) else x)] M Q := by
    refine r_istore (ls2 := [some (vI x), some (vI y), some (vI z), some (vI u), some (vI v), some (vI w), some (vI (if (4 : Int) ≤ w then (if (8 : Int) ≤ w then (if (12 : Int) ≤ w then (if (16 : Int) ≤ w then v else u) else z) else y) else x))]) dX11_byteOf_45 (Nat.le_of_ble_eq_true rfl) rfl ?_
    refine r_iload dX11_byteOf_47 rfl ?_
    refine r_bipush dX11_byteOf_49 (by decide) ?_
    refine r_bipush dX11_byteOf_51 (by decide) ?_
    refine r_iload dX11_byteOf_53 rfl ?_
    refine r_iconst dX11_byteOf_55 (by decide) ?_
    refine r_irem dX11_byteOf_56 (by decide) ?_
    refine r_imul dX11_byteOf_57 ?_
    refine r_isub dX11_byteOf_58 ?_
    refine r_ishr dX11_byteOf_59 ?_
    refine r_sipush dX11_byteOf_60 (by decide) ?_
    refine r_iand dX11_byteOf_63 ?_
    exact r_iret dX11_byteOf_64 rfl h
  refine r_icmp_ge dX11_byteOf_3 rfl (fun q2 => ?_) (fun q2 => ?_)
  · rw [if_pos q2] at K1
    refine r_iload dX11_byteOf_10 rfl ?_
    refine r_bipush dX11_byteOf_12 (by decide) ?_
    refine r_icmp_ge dX11_byteOf_14 rfl (fun q4 => ?_) (fun q4 => ?_)
    · rw [if_pos q4] at K1
      refine r_iload dX11_byteOf_21 rfl ?_
      refine r_bipush dX11_byteOf_23 (by decide) ?_
      refine r_icmp_ge dX11_byteOf_25 rfl (fun q6 => ?_) (fun q6 => ?_)
      · rw [if_pos q6] at K1
        refine r_iload dX11_byteOf_32 rfl ?_
        refine r_bipush dX11_byteOf_34 (by decide) ?_
        refine r_icmp_ge dX11_byteOf_36 rfl (fun q8 => ?_) (fun q8 => ?_)
        · rw [if_pos q8] at K1
          refine r_iload dX11_byteOf_43 rfl ?_
          exact K1
        · rw [if_neg q8] at K1
          refine r_iload_n dX11_byteOf_39 rfl ?_
          refine r_goto (tgt := 45) dX11_byteOf_40 rfl ?_
          exact K1
      · rw [if_neg q6] at K1
        refine r_iload_n dX11_byteOf_28 rfl ?_
        refine r_goto (tgt := 45) dX11_byteOf_29 rfl ?_
        exact K1
    · rw [if_neg q4] at K1
      refine r_iload_n dX11_byteOf_17 rfl ?_
      refine r_goto (tgt := 45) dX11_byteOf_18 rfl ?_
      exact K1
  · rw [if_neg q2] at K1
    refine r_iload_n dX11_byteOf_6 rfl ?_
    refine r_goto (tgt := 45) dX11_byteOf_7 rfl ?_
    exact K1
theorem vm_worked {e : Nat} {M : jM} {Q : Option jV → jM → Prop} {x : Int} {y : Int} {z : Int}  
  (h : (x = 2 → (Call e mX11_bounded [vL (w64 (y + z))] M (fun r5 M3 => ∃ z2 : Int, r5 = some (vI z2) ∧ Shp M3 ∧ (Q (some (vI z2)) M3)))) ∧ (x = 3 → (Call e mX11_bounded [vL (w64 (y - z))] M (fun r10 M8 => ∃ z7 : Int, r10 = some (vI z7) ∧ Shp M8 ∧ (Q (some (vI z7)) M8)))) ∧ (x = 4 → (Call e mX11_bounded [vL (w64 (y * z))] M (fun r15 M13 => ∃ z12 : Int, r15 = some (vI z12) ∧ Shp M13 ∧ (Q (some (vI z12)) M13)))) ∧ (x = 5 → ((((jcmp z (0 : Int)) ≠ (0 : Int)) → (z ≠ 0 ∧ (Call e mX11_bounded [vL (jdivL y z)] M (fun r21 M19 => ∃ z18 : Int, r21 = some (vI z18) ∧ Shp M19 ∧ (Q (some (vI z18)) M19))))) ∧ (¬ ((jcmp z (0 : Int)) ≠ (0 : Int)) → (Q (some (vI (0 : Int))) M)))) ∧ (x = 6 → (Q (some (vI (if (jcmp y z) ≠ (0 : Int) then (0 : Int) else (1 : Int)))) M)) ∧ (x = 7 → (Q (some (vI (if (0 : Int) ≤ (jcmp y z) then (0 : Int) else (1 : Int)))) M)) ∧ (x = 8 → (Q (some (vI (if (jcmp y z) ≤ (0 : Int) then (0 : Int) else (1 : Int)))) M)) ∧ (x = 9 → (Q (some (vI (if (jcmp y (0 : Int)) ≠ (0 : Int) then (1 : Int) else (if (jcmp z (0 : Int)) = (0 : Int) then (0 : Int) else (1 : Int))))) M)) ∧ (x = 10 → (Q (some (vI (if (jcmp y (0 : Int)) = (0 : Int) then (0 : Int) else (if (jcmp z (0 : Int)) = (0 : Int) then (0 : Int) else (1 : Int))))) M)) ∧ ((x < 2 ∨ 10 < x) → (Q (some (vI (if (jcmp y (0 : Int)) ≠ (0 : Int) then (1 : Int) else (if (jcmp z (0 : Int)) = (0 : Int) then (0 : Int) else (1 : Int))))) M))) :
  Call (e + 1) mX11_worked [vI x, vL y, vL z] M Q := by
  show Run (e + 1) mX11_worked 0 [some (vI x), some (vL y), none, some (vL z), none] [] M Q
  refine r_iload_n dX11_worked_0 rfl ?_
  by_cases c1 : x < 2 ∨ 10 < x
  · refine r_tab_out (tgt := 144) dX11_worked_1 c1 rfl ?_
    refine r_lload_n dX11_worked_144 rfl ?_
    refine r_lconst0 dX11_worked_145 ?_
    refine r_lcmp dX11_worked_146 ?_
    have K23 : Run (e + 1) mX11_worked 161 [some (vI x), some (vL y), none, some (vL z), none] [vI (if (jcmp y (0 : Int)) ≠ (0 : Int) then (1 : Int) else (if (jcmp z (0 : Int)) = (0 : Int) then (0 : Int) else (1 : Int)))] M Q := by
      exact r_iret dX11_worked_161 rfl (h.2.2.2.2.2.2.2.2.2 c1)
    refine r_if_ne dX11_worked_147 rfl (fun q24 => ?_) (fun q24 => ?_)
    · rw [if_pos q24] at K23
      refine r_iconst dX11_worked_156 (by decide) ?_
      refine r_goto (tgt := 161) dX11_worked_157 rfl ?_
      exact K23
    · rw [if_neg q24] at K23
      refine r_lload_n dX11_worked_150 rfl ?_
      refine r_lconst0 dX11_worked_151 ?_
      refine r_lcmp dX11_worked_152 ?_
      refine r_if_eq dX11_worked_153 rfl (fun q26 => ?_) (fun q26 => ?_)
      · rw [if_pos q26] at K23
        refine r_iconst dX11_worked_160 (by decide) ?_
        exact K23
      · rw [if_neg q26] at K23
        refine r_iconst dX11_worked_156 (by decide) ?_
        refine r_goto (tgt := 161) dX11_worked_157 rfl ?_
        exact K23
  · rcases (show x = 2 ∨ x = 3 ∨ x = 4 ∨ x = 5 ∨ x = 6 ∨ x = 7 ∨ x = 8 ∨ x = 9 ∨ x = 10 by omega) with c1e | c1e | c1e | c1e | c1e | c1e | c1e | c1e | c1e
    · refine r_tab_eq (tgt := 52) dX11_worked_1 c1e (by decide) rfl rfl ?_
      refine r_lload_n dX11_worked_52 rfl ?_
      refine r_lload_n dX11_worked_53 rfl ?_
      refine r_ladd dX11_worked_54 ?_
      refine r_invS_i dX11_worked_55 (by decide) kXn11_212 kM11_212 (by decide) (Nat.le_of_ble_eq_true rfl) rfl rfl (Nat.le_of_ble_eq_true rfl) (Nat.le_of_ble_eq_true rfl) (Call.mono (h.1 c1e) (Nat.le_refl _) ?_)
      rintro _ M3 ⟨z2, rfl, s6, h4⟩
      refine ⟨_, rfl, ?_⟩
      exact r_iret dX11_worked_58 rfl h4
    · refine r_tab_eq (tgt := 59) dX11_worked_1 c1e (by decide) rfl rfl ?_
      refine r_lload_n dX11_worked_59 rfl ?_
      refine r_lload_n dX11_worked_60 rfl ?_
      refine r_lsub dX11_worked_61 ?_
      refine r_invS_i dX11_worked_62 (by decide) kXn11_212 kM11_212 (by decide) (Nat.le_of_ble_eq_true rfl) rfl rfl (Nat.le_of_ble_eq_true rfl) (Nat.le_of_ble_eq_true rfl) (Call.mono (h.2.1 c1e) (Nat.le_refl _) ?_)
      rintro _ M8 ⟨z7, rfl, s11, h9⟩
      refine ⟨_, rfl, ?_⟩
      exact r_iret dX11_worked_65 rfl h9
    · refine r_tab_eq (tgt := 66) dX11_worked_1 c1e (by decide) rfl rfl ?_
      refine r_lload_n dX11_worked_66 rfl ?_
      refine r_lload_n dX11_worked_67 rfl ?_
      refine r_lmul dX11_worked_68 ?_
      refine r_invS_i dX11_worked_69 (by decide) kXn11_212 kM11_212 (by decide) (Nat.le_of_ble_eq_true rfl) rfl rfl (Nat.le_of_ble_eq_true rfl) (Nat.le_of_ble_eq_true rfl) (Call.mono (h.2.2.1 c1e) (Nat.le_refl _) ?_)
      rintro _ M13 ⟨z12, rfl, s16, h14⟩
      refine ⟨_, rfl, ?_⟩
      exact r_iret dX11_worked_72 rfl h14
    · refine r_tab_eq (tgt := 73) dX11_worked_1 c1e (by decide) rfl rfl ?_
      refine r_lload_n dX11_worked_73 rfl ?_
      refine r_lconst0 dX11_worked_74 ?_
      refine r_lcmp dX11_worked_75 ?_
      refine r_if_ne dX11_worked_76 rfl (fun c17 => ?_) (fun c17 => ?_)
      · refine r_lload_n dX11_worked_83 rfl ?_
        refine r_lload_n dX11_worked_84 rfl ?_
        refine r_ldiv dX11_worked_85 ((h.2.2.2.1 c1e).1 c17).1 ?_
        refine r_invS_i dX11_worked_86 (by decide) kXn11_212 kM11_212 (by decide) (Nat.le_of_ble_eq_true rfl) rfl rfl (Nat.le_of_ble_eq_true rfl) (Nat.le_of_ble_eq_true rfl) (Call.mono ((h.2.2.2.1 c1e).1 c17).2 (Nat.le_refl _) ?_)
        rintro _ M19 ⟨z18, rfl, s22, h20⟩
        refine ⟨_, rfl, ?_⟩
        exact r_iret dX11_worked_89 rfl h20
      · refine r_iconst dX11_worked_79 (by decide) ?_
        refine r_goto (tgt := 89) dX11_worked_80 rfl ?_
        exact r_iret dX11_worked_89 rfl ((h.2.2.2.1 c1e).2 c17)
    · refine r_tab_eq (tgt := 90) dX11_worked_1 c1e (by decide) rfl rfl ?_
      refine r_lload_n dX11_worked_90 rfl ?_
      refine r_lload_n dX11_worked_91 rfl ?_
      refine r_lcmp dX11_worked_92 ?_
      have K28 : Run (e + 1) mX11_worked 101 [some (vI x), some (vL y), none, some (vL z), none] [vI (if (jcmp y z) ≠ (0 : Int) then (0 : Int) else (1 : Int))] M Q := by
        exact r_iret dX11_worked_101 rfl (h.2.2.2.2.1 c1e)
      refine r_if_ne dX11_worked_93 rfl (fun q29 => ?_) (fun q29 => ?_)
      · rw [if_pos q29] at K28
        refine r_iconst dX11_worked_100 (by decide) ?_
        exact K28
      · rw [if_neg q29] at K28
        refine r_iconst dX11_worked_96 (by decide) ?_
        refine r_goto (tgt := 101) dX11_worked_97 rfl ?_
        exact K28
    · refine r_tab_eq (tgt := 102) dX11_worked_1 c1e (by decide) rfl rfl ?_
      refine r_lload_n dX11_worked_102 rfl ?_
      refine r_lload_n dX11_worked_103 rfl ?_
      refine r_lcmp dX11_worked_104 ?_
      have K31 : Run (e + 1) mX11_worked 113 [some (vI x), some (vL y), none, some (vL z), none] [vI (if (0 : Int) ≤ (jcmp y z) then (0 : Int) else (1 : Int))] M Q := by
        exact r_iret dX11_worked_113 rfl (h.2.2.2.2.2.1 c1e)
      refine r_if_ge dX11_worked_105 rfl (fun q32 => ?_) (fun q32 => ?_)
      · rw [if_pos q32] at K31
        refine r_iconst dX11_worked_112 (by decide) ?_
        exact K31
      · rw [if_neg q32] at K31
        refine r_iconst dX11_worked_108 (by decide) ?_
        refine r_goto (tgt := 113) dX11_worked_109 rfl ?_
        exact K31
    · refine r_tab_eq (tgt := 114) dX11_worked_1 c1e (by decide) rfl rfl ?_
      refine r_lload_n dX11_worked_114 rfl ?_
      refine r_lload_n dX11_worked_115 rfl ?_
      refine r_lcmp dX11_worked_116 ?_
      have K34 : Run (e + 1) mX11_worked 125 [some (vI x), some (vL y), none, some (vL z), none] [vI (if (jcmp y z) ≤ (0 : Int) then (0 : Int) else (1 : Int))] M Q := by
        exact r_iret dX11_worked_125 rfl (h.2.2.2.2.2.2.1 c1e)
      refine r_if_le dX11_worked_117 rfl (fun q35 => ?_) (fun q35 => ?_)
      · rw [if_pos q35] at K34
        refine r_iconst dX11_worked_124 (by decide) ?_
        exact K34
      · rw [if_neg q35] at K34
        refine r_iconst dX11_worked_120 (by decide) ?_
        refine r_goto (tgt := 125) dX11_worked_121 rfl ?_
        exact K34
    · refine r_tab_eq (tgt := 144) dX11_worked_1 c1e (by decide) rfl rfl ?_
      refine r_lload_n dX11_worked_144 rfl ?_
      refine r_lconst0 dX11_worked_145 ?_
      refine r_lcmp dX11_worked_146 ?_
      have K37 : Run (e + 1) mX11_worked 161 [some (vI x), some (vL y), none, some (vL z), none] [vI (if (jcmp y (0 : Int)) ≠ (0 : Int) then (1 : Int) else (if (jcmp z (0 : Int)) = (0 : Int) then (0 : Int) else (1 : Int)))] M Q := by
        exact r_iret dX11_worked_161 rfl (h.2.2.2.2.2.2.2.1 c1e)
      refine r_if_ne dX11_worked_147 rfl (fun q38 => ?_) (fun q38 => ?_)
      · rw [if_pos q38] at K37
        refine r_iconst dX11_worked_156 (by decide) ?_
        refine r_goto (tgt := 161) dX11_worked_157 rfl ?_
        exact K37
      · rw [if_neg q38] at K37
        refine r_lload_n dX11_worked_150 rfl ?_
        refine r_lconst0 dX11_worked_151 ?_
        refine r_lcmp dX11_worked_152 ?_
        refine r_if_eq dX11_worked_153 rfl (fun q40 => ?_) (fun q40 => ?_)
        · rw [if_pos q40] at K37
          refine r_iconst dX11_worked_160 (by decide) ?_
          exact K37
        · rw [if_neg q40] at K37
          refine r_iconst dX11_worked_156 (by decide) ?_
          refine r_goto (tgt := 161) dX11_worked_157 rfl ?_
          exact K37
    · refine r_tab_eq (tgt := 126) dX11_worked_1 c1e (by decide) rfl rfl ?_
      refine r_lload_n dX11_worked_126 rfl ?_
      refine r_lconst0 dX11_worked_127 ?_
      refine r_lcmp dX11_worked_128 ?_
      have K42 : Run (e + 1) mX11_worked 143 [some (vI x), some (vL y), none, some (vL z), none] [vI (if (jcmp y (0 : Int)) = (0 : Int) then (0 : Int) else (if (jcmp z (0 : Int)) = (0 : Int) then (0 : Int) else (1 : Int)))] M Q := by
        exact r_iret dX11_worked_143 rfl (h.2.2.2.2.2.2.2.2.1 c1e)
      refine r_if_eq dX11_worked_129 rfl (fun q43 => ?_) (fun q43 => ?_)
      · rw [if_pos q43] at K42
        refine r_iconst dX11_worked_142 (by decide) ?_
        exact K42
      · rw [if_neg q43] at K42
        refine r_lload_n dX11_worked_132 rfl ?_
        refine r_lconst0 dX11_worked_133 ?_
        refine r_lcmp dX11_worked_134 ?_
        refine r_if_eq dX11_worked_135 rfl (fun q45 => ?_) (fun q45 => ?_)
        · rw [if_pos q45] at K42
          refine r_iconst dX11_worked_142 (by decide) ?_
          exact K42
        · rw [if_neg q45] at K42
          refine r_iconst dX11_worked_138 (by decide) ?_
          refine r_goto (tgt := 143) dX11_worked_139 rfl ?_
          exact K42
