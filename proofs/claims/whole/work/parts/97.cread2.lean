/-! THE CLASS reads: atoms, terms, sums -/
theorem atF_num {T : jT} {sub : Option (Nat → jR)} {a : Nat} (h1 : fLt (nxT T a) = -1) (h2 : nxT T a = 91 → sub = none) : atF T sub a = (match nmT T 4 a with
    | .inl w => .inl w
    | .inr (q, v) => .inr (q, [(110, v)])) := by
  unfold atF nmT
  by_cases c1 : fDg (nxT T a) = 1
  · rw [if_pos c1, if_pos c1]
    cases dgF T 4 (skT T a) 0 <;> rfl
  · rw [if_neg c1, if_neg c1, if_neg (fun z => z h1)]
    by_cases c2 : nxT T a = 91
    · rw [if_pos c2, h2 c2]
    · rw [if_neg c2]
theorem atF_let {T : jT} {sub : Option (Nat → jR)} {a : Nat} (h1 : fLt (nxT T a) ≠ -1) : atF T sub a = .inr (skT T a + 1, [(108, fLt (nxT T a))]) := by
  unfold atF
  have c1 : ¬ fDg (nxT T a) = 1 := by
    intro c
    have := fDg_1.mp c
    unfold fLt at h1
    rw [if_neg (by omega), if_neg (by omega), if_neg (by omega), if_neg (by omega), if_neg (by omega), if_neg (by omega)] at h1
    exact h1 rfl
  rw [if_neg c1, if_pos h1]
theorem atF_sub {T : jT} {s : Nat → jR} {a : Nat} (h1 : nxT T a = 91) : atF T (some s) a = (match s (skT T a + 1) with
    | .inl w => .inl w
    | .inr (q, l) => if nxT T q = 93 then .inr (skT T q + 1, l) else .inl (skT T q)) := by
  unfold atF
  rw [if_neg (by rw [h1]; decide), if_neg (by rw [h1]; decide), if_pos h1]
  rfl
theorem nmT_v {T : jT} {m a q : Nat} {v : Int} (hm : m ≤ 4) (h : nmT T m a = .inr (q, v)) : 0 ≤ v ∧ v ≤ 9999 := by
  unfold nmT at h
  by_cases c : fDg (nxT T a) = 1
  · rw [if_pos c] at h
    have h4 : (10 : Nat) ^ m ≤ 10 ^ 4 := Nat.pow_le_pow_right (by decide) hm
    have h5 : (10 : Nat) ^ 4 = 10000 := rfl
    have := dgF_v (T := T) m (skT T a) 0 (Int.le_refl _) (by omega)
    rw [h] at this
    exact this
  · rw [if_neg c] at h
    cases h
theorem nmT_q {T : jT} {m a q : Nat} {v : Int} (ha : a ≤ T.2) (h : nmT T m a = .inr (q, v)) : skT T a ≤ q ∧ q ≤ T.2 := by
  unfold nmT at h
  by_cases c : fDg (nxT T a) = 1
  · rw [if_pos c] at h
    have := dgF_in (T := T) m (skT T a) 0 ((skT_in (T := T) a).2 ha)
    rw [h] at this
    exact this
  · rw [if_neg c] at h
    cases h
theorem nmT_sk {T : jT} {m a : Nat} : nmT T m (skT T a) = nmT T m a := by
  unfold nmT
  rw [nxT_sk, skT_sk]
section CRead2
variable {T : jT} {dp D : Nat} {sub : Option (Nat → jR)}
theorem CP_at (hdp : dp ≤ 6) (hsub : ∀ s, sub = some s → dp < 6 ∧ okP T s ∧ CP T D mX4_readSum [vR 19, vR 7, vI ((dp + 1 : Nat) : Int)] s) (hnone : sub = none → dp = 6) : CP T (D + 8) mX4_readAtom [vR 19, vR 7, vI (dp : Int)] (atF T sub) := by
  intro k M Q a n hk hS hT ha ha2 hn hna h
  obtain ⟨e, rfl⟩ := dd (d := k) (by omega)
  have hk1 := (skT_in (T := T) a).1
  have hk2 := (skT_in (T := T) a).2 ha2
  have h240 := hT.2.1
  have num : ∀ M2, KN M M2 → iv M2 7 2 = ((skT T a : Nat) : Int) → fLt (nxT T a) = -1 → (nxT T a = 91 → sub = none) → Call e mX8_number [vR 7, vI (4 : Int)] M2 (fun r11 M9 => ∃ z8 : Int, r11 = some (vI z8) ∧ Shp M9 ∧ (((z8 ≠ (-1 : Int)) → (∀ N14 : jM, N14 = (si (ptv (ptv M9 240 21 (iv M9 20 2) (110 : Int)) 240 22 (iv M9 20 2) z8) 20 2 (w32 (iv M9 20 2 + 1))) → Shp N14 → (Q (some (vI (1 : Int))) N14))) ∧ (¬ (z8 ≠ (-1 : Int)) → (Q (some (vI (0 : Int))) M9)))) := by
    intro M2 k2 e2 c1 c2
    have hv := atF_num (T := T) (sub := sub) (a := a) c1 c2
    refine c_number (m := 4) (by omega) (k2.1.shp hS) (hT.kf k2.kf) e2 (by decide) (fun q v hq M9 k9 e9 e93 => ?_) (fun w hw M9 k9 e93 => ?_)
    · rw [nmT_sk] at hq
      rw [hq] at hv
      obtain ⟨v1, v2⟩ := nmT_v (by decide) hq
      obtain ⟨q1, q2⟩ := nmT_q ha2 hq
      refine ⟨_, rfl, k9.1.shp (k2.1.shp hS), fun _ N hN _ => ?_, fun z => absurd (by omega) z⟩
      refine h N 1 ?_
      rw [hv]
      have g9 : KA M M9 n q [] := ((KA.start ha hn).next k2 e2).k3 k9 e9 e93
      have h6 := okP_at (fun s hs => (hsub s hs).2.1) a ha2
      rw [hv] at h6
      have h6 := h6.1
      exact ⟨rfl, g9.add (by show n + 0 < 240; have : a + 1 ≤ q := h6; omega) hN⟩
    · rw [nmT_sk] at hw
      rw [hw] at hv
      refine ⟨_, rfl, k9.1.shp (k2.1.shp hS), fun z => absurd rfl z, fun _ => h M9 0 ?_⟩
      rw [hv]
      exact ⟨rfl, k2.kf.trans k9.kf, e93⟩
  have let_ : ∀ M2, KN M M2 → iv M2 7 2 = ((skT T a : Nat) : Int) → fLt (nxT T a) ≠ -1 → ∀ N16 : jM, N16 = (si M2 7 2 (if iv M2 7 2 < iv M2 7 1 then w32 (iv M2 7 2 + 1) else iv M2 7 2)) → Shp N16 → (∀ N18 : jM, N18 = (si (ptv (ptv N16 240 21 (iv N16 20 2) (108 : Int)) 240 22 (iv N16 20 2) (fLt (nxT T a))) 20 2 (w32 (iv N16 20 2 + 1))) → Shp N18 → (Q (some (vI (1 : Int))) N18)) := by
    intro M2 k2 e2 c1 N hN _ N2 hN2 _
    have hl : skT T a < T.2 := nxT_lt (fun z => by rw [z] at c1; exact c1 (by decide))
    rw [step_e (hT.kf k2.kf) e2 hl] at hN
    have g : KA M N n (skT T a + 1) [] := ((KA.start ha hn).next k2 e2).pos hN rfl
    refine h N2 1 ?_
    rw [atF_let c1]
    exact ⟨rfl, g.add (by show n + 0 < 240; omega) hN2⟩
  refine vk_readAtom (by omega) hS (c_next (by omega) hS hT ha (fun M2 k2 e2 => ⟨_, rfl, k2.1.shp hS, fun c => ⟨fun c1 => num M2 k2 e2 c1 (fun z => absurd z c), fun c1 => let_ M2 k2 e2 c1⟩, fun c => ⟨fun cd => ⟨fun c1 => num M2 k2 e2 c1 (fun _ => ?_), fun c1 => let_ M2 k2 e2 c1⟩, fun cd N hN sN => ?_⟩⟩))
  · cases hs : sub with
    | none => rfl
    | some s => exact absurd (hsub s hs).1 (by omega)
  · have c := Classical.not_not.mp c
    have hl : skT T a < T.2 := nxT_lt (by rw [c]; decide)
    rw [step_e (hT.kf k2.kf) e2 hl] at hN
    have gN : KA M N n (skT T a + 1) [] := ((KA.start ha hn).next k2 e2).pos hN rfl
    cases hs : sub with
    | none => exact absurd (hnone hs) (by omega)
    | some s =>
      obtain ⟨s1, s2, s3⟩ := hsub s hs
      have hv := atF_sub (T := T) (s := s) c
      rw [hs] at h
      have hTN : KT N T := hT.kf gN.1
      rw [w32s (by omega)]
      refine s3 e N _ (skT T a + 1) n (by omega) sN hTN gN.2.1 (by omega) gN.2.2.2.1 (by omega) (fun M3 b hO => ⟨b, rfl, hO.kf.shp sN, ?_⟩)
      have hok := s2 (skT T a + 1) (by omega)
      cases hr : s (skT T a + 1) with
      | inl w =>
        rw [hr] at hO hv
        obtain ⟨b0, kf, e3⟩ := hO.lft
        refine ⟨fun z => absurd b0 z, fun _ => h M3 0 ?_⟩
        rw [hv]
        exact ⟨rfl, gN.1.trans kf, e3⟩
      | inr x =>
        obtain ⟨q, l⟩ := x
        rw [hr] at hO hv hok
        obtain ⟨b1, ka⟩ := hO.rgt
        obtain ⟨o1, o2, o3⟩ := hok
        have g3 : KA M M3 n q l := gN.trans ka
        have s3' := hO.kf.shp sN
        refine ⟨fun _ => c_take (by omega) s3' (hT.kf g3.1) g3.2.1 (by decide) (fun z M4 k4 e4 => ⟨_, rfl, k4.1.shp s3', fun _ => h M4 1 ?_, fun y => absurd (by decide) y⟩) (fun z M4 k4 e4 => ⟨_, rfl, k4.1.shp s3', fun y => absurd rfl y, fun _ N5 hN5 _ => h N5 0 ?_⟩), fun z => absurd (by omega) z⟩
        · rw [hv]
          dsimp only
          rw [if_pos z]
          exact ⟨rfl, g3.next k4 e4⟩
        · rw [hv]
          dsimp only
          rw [if_neg z]
          exact ⟨rfl, (g3.next k4 e4).1.si3 hN5, by rw [hN5, iv_si, if_pos ⟨rfl, rfl⟩]; exact e4⟩
theorem CP_tm {s : Nat → jR} (hs : CP T D mX4_readAtom [vR 19, vR 7, vI (dp : Int)] s) (hok : okP T s) : CP T (D + 6) mX4_readTerm [vR 19, vR 7, vI (dp : Int)] (fun a => chB T oM s (s a)) := by
  intro k M Q a0 n hk hS hT ha ha2 hn hna h
  obtain ⟨e, rfl⟩ := dd (d := k) (by omega)
  have h240 := hT.2.1
  have h : ∀ M' b, KO M M' n (chB T oM s (s a0)) b → Q (some (vI b)) M' := h
  refine vk_readTerm (by omega) hS (hs e M _ a0 n (by omega) hS hT ha ha2 hn hna (fun M2 b hO => ⟨b, rfl, hO.kf.shp hS, ?_⟩))
  have hr0 := hok a0 ha2
  cases hr : s a0 with
  | inl w =>
    rw [hr] at hO h
    obtain ⟨b0, kf, e3⟩ := hO.lft
    exact ⟨fun z => absurd b0 z, fun _ => h M2 0 ⟨rfl, kf, e3⟩⟩
  | inr x =>
    obtain ⟨q0, l0⟩ := x
    rw [hr] at hO h hr0
    obtain ⟨b1, ka0⟩ := hO.rgt
    obtain ⟨o1, o2, o3⟩ := hr0
    refine ⟨fun _ => ?_, fun z => absurd (by omega) z⟩
    have key : ∀ f i a l M1 l4, T.2 - a ≤ f → i ≤ a → KA M M1 n a l → n + l.length ≤ a → a ≤ T.2 → (∀ M' b, KO M M' n (lpF T oM s f a l) b → Q (some (vI b)) M') → Run (e + 1) mX4_readTerm 13 [some (vR 19), some (vR 7), some (vI (dp : Int)), some (vI (i : Int)), l4] [] M1 Q := by
      intro f
      induction f with
      | zero =>
        intro i a l M1 l4 hf hi g hl hat h
        obtain ⟨z1, z2⟩ := nxT_end (T := T) (a := a) (by omega)
        have s1 := g.1.shp hS
        have fin : ∀ M', KN M1 M' → iv M' 7 2 = ((skT T a : Nat) : Int) → Q (some (vI 1)) M' := fun M' k' e' => h M' 1 ⟨rfl, g.next k' e'⟩
        refine vk_readTerm_13 (by omega) s1 ⟨fun _ => fin M1 KN.refl (by rw [z2]; exact g.2.1), fun _ => c_next (by omega) s1 (hT.kf g.1) g.2.1 (fun M9 k9 e9 => ⟨_, rfl, k9.1.shp s1, fun z => ?_, fun z => ⟨fun y => ?_, fun y => fin M9 k9 e9⟩⟩)⟩
        · rw [z1] at z; exact absurd z (by decide)
        · rw [z1] at y; exact absurd y (by decide)
      | succ f ih =>
        intro i a l M1 l4 hf hi g hl hat h
        have s1 := g.1.shp hS
        have hk1 := (skT_in (T := T) a).1
        have hk2 := (skT_in (T := T) a).2 hat
        simp only [lpF] at h
        have fin : ¬ oM (nxT T a) = true → ∀ M', KN M1 M' → iv M' 7 2 = ((skT T a : Nat) : Int) → Q (some (vI 1)) M' := fun c M' k' e' => by
          rw [if_neg c] at h
          exact h M' 1 ⟨rfl, g.next k' e'⟩
        have go : ∀ M9, KN M1 M9 → iv M9 7 2 = ((skT T a : Nat) : Int) → oM (nxT T a) = true → ∀ N14 : jM, N14 = (si M9 7 2 (if iv M9 7 2 < iv M9 7 1 then w32 (iv M9 7 2 + 1) else iv M9 7 2)) → Shp N14 → (Call e mX4_readAtom [vR 19, vR 7, vI (dp : Int)] N14 (fun r19 M17 => ∃ z16 : Int, r19 = some (vI z16) ∧ Shp M17 ∧ (((z16 ≠ (0 : Int)) → (∀ N22 : jM, N22 = (si (ptv (ptv M17 240 21 (iv M17 20 2) (nxT T a)) 240 22 (iv M17 20 2) (0 : Int)) 20 2 (w32 (iv M17 20 2 + 1))) → Shp N22 → (Run (e + 1) mX4_readTerm 13 [some (vR 19), some (vR 7), some (vI (dp : Int)), some (vI (w32 ((i : Int) + (1 : Int)))), some (vI (nxT T a))] [] N22 Q))) ∧ (¬ (z16 ≠ (0 : Int)) → (Q (some (vI (0 : Int))) M17))))) := by
          intro M9 k9 e9 c N hN sN
          rw [if_pos c] at h
          have hlt : skT T a < T.2 := nxT_lt (fun y => by rw [y] at c; exact absurd c (by decide))
          have g9 := g.next k9 e9
          rw [step_e (hT.kf g9.1) e9 hlt] at hN
          have gN : KA M N n (skT T a + 1) l := g9.pos hN rfl
          refine hs e N _ (skT T a + 1) (n + l.length) (by omega) sN (hT.kf gN.1) gN.2.1 (by omega) gN.2.2.2.1 (by omega) (fun M3 b hO => ⟨b, rfl, hO.kf.shp sN, ?_⟩)
          have hr1 := hok (skT T a + 1) (by omega)
          cases hr : s (skT T a + 1) with
          | inl w =>
            rw [hr] at hO h
            obtain ⟨b0, kf, e3⟩ := hO.lft
            exact ⟨fun z => absurd b0 z, fun _ => h M3 0 ⟨rfl, gN.1.trans kf, e3⟩⟩
          | inr x =>
            obtain ⟨q, l'⟩ := x
            rw [hr] at hO h hr1
            obtain ⟨b1, ka⟩ := hO.rgt
            obtain ⟨o1, o2, o3⟩ := hr1
            have g3 : KA M M3 n q (l ++ l') := gN.trans ka
            refine ⟨fun _ N5 hN5 _ => ?_, fun z => absurd (by omega) z⟩
            have g5 := g3.add (by rw [List.length_append]; omega) hN5
            rw [w32s (by omega)]
            exact ih (i + 1) q _ N5 _ (by omega) (by omega) g5 (by rw [List.length_append, List.length_append]; show n + (l.length + l'.length + 1) ≤ q; omega) o3 h
        by_cases hend : 240 ≤ i
        · obtain ⟨z1, z2⟩ := nxT_end (T := T) (a := a) (by omega)
          exact vk_readTerm_13 (by omega) s1 ⟨fun _ => fin (by rw [z1]; decide) M1 KN.refl (by rw [z2]; exact g.2.1), fun z => absurd (by omega) z⟩
        · refine vk_readTerm_13 (by omega) s1 ⟨fun z => absurd z (by omega), fun _ => c_next (by omega) s1 (hT.kf g.1) g.2.1 (fun M9 k9 e9 => ⟨_, rfl, k9.1.shp s1, fun z => go M9 k9 e9 (by rw [z]; rfl), fun z => ⟨fun y => go M9 k9 e9 (by rw [y]; rfl), fun y => fin (fun x => ?_) M9 k9 e9⟩⟩)⟩
          unfold oM at x
          rw [Bool.or_eq_true, beq_iff_eq, beq_iff_eq] at x
          rcases x with x | x
          · exact z x
          · exact y x
    exact key T.2 0 q0 l0 M2 none (by omega) (Nat.zero_le _) ka0 (by omega) o3 h
theorem CP_sm {s : Nat → jR} (hs : CP T D mX4_readTerm [vR 19, vR 7, vI (dp : Int)] s) (hok : okP T s) : CP T (D + 6) mX4_readSum [vR 19, vR 7, vI (dp : Int)] (fun a => chB T oA s (s a)) := by
  intro k M Q a0 n hk hS hT ha ha2 hn hna h
  obtain ⟨e, rfl⟩ := dd (d := k) (by omega)
  have h240 := hT.2.1
  have h : ∀ M' b, KO M M' n (chB T oA s (s a0)) b → Q (some (vI b)) M' := h
  refine vk_readSum (by omega) hS (hs e M _ a0 n (by omega) hS hT ha ha2 hn hna (fun M2 b hO => ⟨b, rfl, hO.kf.shp hS, ?_⟩))
  have hr0 := hok a0 ha2
  cases hr : s a0 with
  | inl w =>
    rw [hr] at hO h
    obtain ⟨b0, kf, e3⟩ := hO.lft
    exact ⟨fun z => absurd b0 z, fun _ => h M2 0 ⟨rfl, kf, e3⟩⟩
  | inr x =>
    obtain ⟨q0, l0⟩ := x
    rw [hr] at hO h hr0
    obtain ⟨b1, ka0⟩ := hO.rgt
    obtain ⟨o1, o2, o3⟩ := hr0
    refine ⟨fun _ => ?_, fun z => absurd (by omega) z⟩
    have key : ∀ f i a l M1 l4, T.2 - a ≤ f → i ≤ a → KA M M1 n a l → n + l.length ≤ a → a ≤ T.2 → (∀ M' b, KO M M' n (lpF T oA s f a l) b → Q (some (vI b)) M') → Run (e + 1) mX4_readSum 13 [some (vR 19), some (vR 7), some (vI (dp : Int)), some (vI (i : Int)), l4] [] M1 Q := by
      intro f
      induction f with
      | zero =>
        intro i a l M1 l4 hf hi g hl hat h
        obtain ⟨z1, z2⟩ := nxT_end (T := T) (a := a) (by omega)
        have s1 := g.1.shp hS
        have fin : ∀ M', KN M1 M' → iv M' 7 2 = ((skT T a : Nat) : Int) → Q (some (vI 1)) M' := fun M' k' e' => h M' 1 ⟨rfl, g.next k' e'⟩
        refine vk_readSum_13 (by omega) s1 ⟨fun _ => fin M1 KN.refl (by rw [z2]; exact g.2.1), fun _ => c_next (by omega) s1 (hT.kf g.1) g.2.1 (fun M9 k9 e9 => ⟨_, rfl, k9.1.shp s1, fun z => ?_, fun z => ⟨fun y => ?_, fun y => fin M9 k9 e9⟩⟩)⟩
        · rw [z1] at z; exact absurd z (by decide)
        · rw [z1] at y; exact absurd y (by decide)
      | succ f ih =>
        intro i a l M1 l4 hf hi g hl hat h
        have s1 := g.1.shp hS
        have hk1 := (skT_in (T := T) a).1
        have hk2 := (skT_in (T := T) a).2 hat
        simp only [lpF] at h
        have fin : ¬ oA (nxT T a) = true → ∀ M', KN M1 M' → iv M' 7 2 = ((skT T a : Nat) : Int) → Q (some (vI 1)) M' := fun c M' k' e' => by
          rw [if_neg c] at h
          exact h M' 1 ⟨rfl, g.next k' e'⟩
        have go : ∀ M9, KN M1 M9 → iv M9 7 2 = ((skT T a : Nat) : Int) → oA (nxT T a) = true → ∀ N14 : jM, N14 = (si M9 7 2 (if iv M9 7 2 < iv M9 7 1 then w32 (iv M9 7 2 + 1) else iv M9 7 2)) → Shp N14 → (Call e mX4_readTerm [vR 19, vR 7, vI (dp : Int)] N14 (fun r19 M17 => ∃ z16 : Int, r19 = some (vI z16) ∧ Shp M17 ∧ (((z16 ≠ (0 : Int)) → (∀ N22 : jM, N22 = (si (ptv (ptv M17 240 21 (iv M17 20 2) (nxT T a)) 240 22 (iv M17 20 2) (0 : Int)) 20 2 (w32 (iv M17 20 2 + 1))) → Shp N22 → (Run (e + 1) mX4_readSum 13 [some (vR 19), some (vR 7), some (vI (dp : Int)), some (vI (w32 ((i : Int) + (1 : Int)))), some (vI (nxT T a))] [] N22 Q))) ∧ (¬ (z16 ≠ (0 : Int)) → (Q (some (vI (0 : Int))) M17))))) := by
          intro M9 k9 e9 c N hN sN
          rw [if_pos c] at h
          have hlt : skT T a < T.2 := nxT_lt (fun y => by rw [y] at c; exact absurd c (by decide))
          have g9 := g.next k9 e9
          rw [step_e (hT.kf g9.1) e9 hlt] at hN
          have gN : KA M N n (skT T a + 1) l := g9.pos hN rfl
          refine hs e N _ (skT T a + 1) (n + l.length) (by omega) sN (hT.kf gN.1) gN.2.1 (by omega) gN.2.2.2.1 (by omega) (fun M3 b hO => ⟨b, rfl, hO.kf.shp sN, ?_⟩)
          have hr1 := hok (skT T a + 1) (by omega)
          cases hr : s (skT T a + 1) with
          | inl w =>
            rw [hr] at hO h
            obtain ⟨b0, kf, e3⟩ := hO.lft
            exact ⟨fun z => absurd b0 z, fun _ => h M3 0 ⟨rfl, gN.1.trans kf, e3⟩⟩
          | inr x =>
            obtain ⟨q, l'⟩ := x
            rw [hr] at hO h hr1
            obtain ⟨b1, ka⟩ := hO.rgt
            obtain ⟨o1, o2, o3⟩ := hr1
            have g3 : KA M M3 n q (l ++ l') := gN.trans ka
            refine ⟨fun _ N5 hN5 _ => ?_, fun z => absurd (by omega) z⟩
            have g5 := g3.add (by rw [List.length_append]; omega) hN5
            rw [w32s (by omega)]
            exact ih (i + 1) q _ N5 _ (by omega) (by omega) g5 (by rw [List.length_append, List.length_append]; show n + (l.length + l'.length + 1) ≤ q; omega) o3 h
        by_cases hend : 240 ≤ i
        · obtain ⟨z1, z2⟩ := nxT_end (T := T) (a := a) (by omega)
          exact vk_readSum_13 (by omega) s1 ⟨fun _ => fin (by rw [z1]; decide) M1 KN.refl (by rw [z2]; exact g.2.1), fun z => absurd (by omega) z⟩
        · refine vk_readSum_13 (by omega) s1 ⟨fun z => absurd z (by omega), fun _ => c_next (by omega) s1 (hT.kf g.1) g.2.1 (fun M9 k9 e9 => ⟨_, rfl, k9.1.shp s1, fun z => go M9 k9 e9 (by rw [z]; rfl), fun z => ⟨fun y => go M9 k9 e9 (by rw [y]; rfl), fun y => fin (fun x => ?_) M9 k9 e9⟩⟩)⟩
          unfold oA at x
          rw [Bool.or_eq_true, beq_iff_eq, beq_iff_eq] at x
          rcases x with x | x
          · exact z x
          · exact y x
    exact key T.2 0 q0 l0 M2 none (by omega) (Nat.zero_le _) ka0 (by omega) o3 h
theorem CP_smK : ∀ (k dp : Nat), dp + k = 6 → CP T (30 * k + 30) mX4_readSum [vR 19, vR 7, vI (dp : Int)] (smK T k)
  | 0, dp, h => by
    have h1 : CP T (0 + 8) mX4_readAtom [vR 19, vR 7, vI (dp : Int)] (atF T none) := CP_at (by omega) (fun s hs => by cases hs) (fun _ => by omega)
    have h2 := CP_tm h1 (okP_at (fun s hs => by cases hs))
    have h3 := CP_sm h2 (okP_tm (fun s hs => by cases hs))
    exact fun k M Q a n hk => h3 k M Q a n (by omega)
  | k + 1, dp, h => by
    have h0 := CP_smK k (dp + 1) (by omega)
    have h1 : CP T (30 * k + 30 + 8) mX4_readAtom [vR 19, vR 7, vI (dp : Int)] (atF T (some (smK T k))) := CP_at (by omega) (fun s hs => by cases hs; exact ⟨by omega, okP_smK k, h0⟩) (fun hs => by cases hs)
    have h2 := CP_tm h1 (okP_at (fun s hs => by cases hs; exact okP_smK k))
    have h3 := CP_sm h2 (okP_tm (fun s hs => by cases hs; exact okP_smK k))
    exact fun k' M Q a n hk => h3 k' M Q a n (by omega)
end CRead2
