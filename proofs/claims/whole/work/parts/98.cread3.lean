/-! THE CLASS reads: conditions -/
def CQ (T : jT) (d : Nat) (me : jMe) (as : List jV) (f : jR → jR) : Prop := ∀ (k : Nat) (M0 M : jM) (Q : Option jV → jM → Prop) (a n : Nat) (l : List (Int × Int)), d ≤ k → Shp M0 → KT M0 T → KA M0 M n a l → n + l.length ≤ a → a ≤ T.2 → (∀ M' b, KO M0 M' n (f (.inr (a, l))) b → Q (some (vI b)) M') → Call k me as M Q
theorem KO.pre {M M2 M' : jM} {n : Nat} {r : jR} {b : Int} (k : KN M M2) (h : KO M2 M' n r b) : KO M M' n r b := by
  revert h
  cases r with
  | inl w => exact fun h => ⟨h.1, k.kf.trans h.2.1, h.2.2⟩
  | inr x =>
    intro h
    obtain ⟨h1, h2, h3, h4, h5, h6, h7⟩ := h
    exact ⟨h1, k.kf.trans h2, h3, h4.trans (k.2 3 (by decide)), h5, fun j hj => by rw [← k.1.eiv (r := 21) (by decide), ← k.1.eiv (r := 22) (by decide)]; exact h6 j hj, h7⟩
theorem fSg_0 {c : Int} : fSg c ≠ 0 ↔ fSg c = 1 := by
  unfold fSg
  split <;> simp
section CRead3
variable {T : jT} {dp D : Nat} {sub : Option (Nat → jR)} {s u : Nat → jR}
theorem c_cmp {e : Nat} {M0 M : jM} {Q : Option jV → jM → Prop} {a n : Nat} {l : List (Int × Int)} (hs : CP T D mX4_readSum [vR 19, vR 7, vI (dp : Int)] s) (hok : okP T s) (he : D + 6 ≤ e) (hS : Shp M0) (hT : KT M0 T) (g : KA M0 M n a l) (hl : n + l.length ≤ a) (ha : a ≤ T.2) (h : ∀ M' b, KO M0 M' n (cmF T s (.inr (a, l))) b → Q (some (vI b)) M') : Call e mX8_next [vR 7] M (fun r5 M3 => ∃ z2 : Int, r5 = some (vI z2) ∧ Shp M3 ∧ ((((fSg z2) ≠ (0 : Int)) → (∀ N8 : jM, N8 = (si M3 7 2 (if iv M3 7 2 < iv M3 7 1 then w32 (iv M3 7 2 + 1) else iv M3 7 2)) → Shp N8 → (Call e mX4_readSum [vR 19, vR 7, vI (dp : Int)] N8 (fun r13 M11 => ∃ z10 : Int, r13 = some (vI z10) ∧ Shp M11 ∧ (((z10 ≠ (0 : Int)) → (∀ N16 : jM, N16 = (si (ptv (ptv M11 240 21 (iv M11 20 2) z2) 240 22 (iv M11 20 2) (0 : Int)) 20 2 (w32 (iv M11 20 2 + 1))) → Shp N16 → (Q (some (vI (1 : Int))) N16))) ∧ (¬ (z10 ≠ (0 : Int)) → (Q (some (vI (0 : Int))) M11))))))) ∧ (¬ ((fSg z2) ≠ (0 : Int)) → (∀ N18 : jM, N18 = (si M3 7 3 (iv M3 7 2)) → Shp N18 → (Q (some (vI (0 : Int))) N18))))) := by
  have s0 := g.1.shp hS
  have h240 := hT.2.1
  have hk1 := (skT_in (T := T) a).1
  refine c_next (by omega) s0 (hT.kf g.1) g.2.1 (fun M3 k3 e3 => ⟨_, rfl, k3.1.shp s0, fun z N hN sN => ?_, fun z N hN sN => h N 0 ?_⟩)
  · rw [fSg_0] at z
    have hlt : skT T a < T.2 := nxT_lt (fun y => by rw [y] at z; exact absurd z (by decide))
    have g3 := g.next k3 e3
    rw [step_e (hT.kf g3.1) e3 hlt] at hN
    have gN : KA M0 N n (skT T a + 1) l := g3.pos hN rfl
    have hv : cmF T s (.inr (a, l)) = (match s (skT T a + 1) with
      | .inl w => .inl w
      | .inr (q', l') => .inr (q', l ++ l' ++ [(nxT T a, 0)])) := if_pos z
    refine hs e N _ (skT T a + 1) (n + l.length) (by omega) sN (hT.kf gN.1) gN.2.1 (by omega) gN.2.2.2.1 (by omega) (fun M4 b hO => ⟨b, rfl, hO.kf.shp sN, ?_⟩)
    have hr1 := hok (skT T a + 1) (by omega)
    cases hr : s (skT T a + 1) with
    | inl w =>
      rw [hr] at hO hv
      obtain ⟨b0, kf, e3⟩ := hO.lft
      exact ⟨fun z => absurd b0 z, fun _ => h M4 0 (by rw [hv]; exact ⟨rfl, gN.1.trans kf, e3⟩)⟩
    | inr x =>
      obtain ⟨q, l'⟩ := x
      rw [hr] at hO hv hr1
      obtain ⟨b1, ka⟩ := hO.rgt
      obtain ⟨o1, o2, o3⟩ := hr1
      have g4 : KA M0 M4 n q (l ++ l') := gN.trans ka
      refine ⟨fun _ N5 hN5 _ => h N5 1 ?_, fun z => absurd (by omega) z⟩
      rw [hv]
      exact ⟨rfl, g4.add (by rw [List.length_append]; omega) hN5⟩
  · rw [fSg_0] at z
    have hv : cmF T s (.inr (a, l)) = .inl (skT T a) := if_neg z
    rw [hv]
    exact ⟨rfl, (g.next k3 e3).1.si3 hN, by rw [hN, iv_si, if_pos ⟨rfl, rfl⟩]; exact e3⟩
theorem CQ_un (hs : CP T D mX4_readSum [vR 19, vR 7, vI (dp : Int)] s) (hok : okP T s) : CQ T (D + 7) mX4_readUnit [vR 19, vR 7, vI (dp : Int), vI 1] (cmF T s) := by
  intro k M0 M Q a n l hk hS hT g hl ha h
  obtain ⟨e, rfl⟩ := dd (d := k) (by omega)
  exact vk_readUnit (by omega) (g.1.shp hS) ⟨fun _ => c_cmp hs hok (by omega) hS hT g hl ha h, fun z => absurd (by decide) z⟩
theorem c_nested (hdp : dp ≤ 6) (hsub : ∀ u, sub = some u → dp < 6 ∧ okP T u ∧ CP T D mX4_readUnit [vR 19, vR 7, vI ((dp + 1 : Nat) : Int), vI 0] u ∧ CP T D mX4_readCondition [vR 19, vR 7, vI ((dp + 1 : Nat) : Int), vI 0] (fun b => cdF T u (u b))) (hnone : sub = none → dp = 6) {k : Nat} {M : jM} {Q : Option jV → jM → Prop} {a n : Nat} {sg : Int} (hk : D + 8 ≤ k) (hS : Shp M) (hT : KT M T) (ha : iv M 7 2 = ((skT T a : Nat) : Int)) (ha2 : a ≤ T.2) (hn : iv M 20 2 = (n : Int)) (hna : n ≤ a) (hsg : nxT T a = sg) (h3 : sg = 33 ∨ sg = 40) (h : ∀ M' b, KO M M' n (unF T s sub a) b → Q (some (vI b)) M') : Call k mX4_readNested [vR 19, vR 7, vI (dp : Int), vI sg] M Q := by
  obtain ⟨e, rfl⟩ := dd (d := k) (by omega)
  have h240 := hT.2.1
  have hk1 := (skT_in (T := T) a).1
  have hlt : skT T a < T.2 := nxT_lt (by rcases h3 with z | z <;> rw [hsg, z] <;> decide)
  refine vk_readNested (by omega) hS ⟨fun c N hN sN => ?_, fun c N hN sN => h N 0 ?_⟩
  · rw [step_e hT ha hlt] at hN
    have gN : KA M N n (skT T a + 1) [] := (KA.start (a := skT T a) ha hn).pos hN rfl
    cases hs : sub with
    | none => exact absurd (hnone hs) (by omega)
    | some u =>
      obtain ⟨s1, s2, s3, s4⟩ := hsub u hs
      rw [hs] at h
      rw [w32s (by omega)]
      refine ⟨fun z => ?_, fun z => ?_⟩
      · have hsg2 : nxT T a = 40 := by omega
        have hv : unF T s (some u) a = (match cdF T u (u (skT T a + 1)) with
          | .inl w => .inl w
          | .inr (q, l) => if nxT T q = 41 then .inr (skT T q + 1, l) else .inl (skT T q)) := by
          unfold unF
          rw [if_neg (by rw [hsg2]; decide), if_pos hsg2]
          rfl
        refine s4 e N _ (skT T a + 1) n (by omega) sN (hT.kf gN.1) gN.2.1 (by omega) gN.2.2.2.1 (by omega) (fun M3 b hO => ⟨b, rfl, hO.kf.shp sN, ?_⟩)
        have hO : KO N M3 n (cdF T u (u (skT T a + 1))) b := hO
        have hok := okR_cd s2 (s2 (skT T a + 1) (by omega))
        cases hr : cdF T u (u (skT T a + 1)) with
        | inl w =>
          rw [hr] at hO hv
          obtain ⟨b0, kf, e3⟩ := hO.lft
          refine ⟨fun z => absurd b0 z, fun _ => h M3 0 ?_⟩
          rw [hv]
          exact ⟨rfl, gN.1.trans kf, e3⟩
        | inr x =>
          obtain ⟨q, l⟩ := x
          rw [hr] at hO hv hok
          obtain ⟨b1, ka⟩ := hO.rgt
          obtain ⟨o1, o2, o3⟩ := hok
          have g3 : KA M M3 n q l := gN.trans ka
          have s3' := hO.kf.shp sN
          refine ⟨fun _ => c_take (by omega) s3' (hT.kf g3.1) g3.2.1 (by decide) (fun z M4 k4 e4 => ⟨_, rfl, k4.1.shp s3', fun _ => h M4 1 ?_, fun y => absurd (by decide) y⟩) (fun z M4 k4 e4 => ⟨_, rfl, k4.1.shp s3', fun y => absurd rfl y, fun _ N5 hN5 _ => h N5 0 ?_⟩), fun z => absurd (by omega) z⟩
          · rw [hv]
            dsimp only
            rw [if_pos z]
            exact ⟨rfl, g3.next k4 e4⟩
          · rw [hv]
            dsimp only
            rw [if_neg z]
            exact ⟨rfl, (g3.next k4 e4).1.si3 hN5, by rw [hN5, iv_si, if_pos ⟨rfl, rfl⟩]; exact e4⟩
      · have hsg2 : nxT T a = 33 := by omega
        have hv : unF T s (some u) a = (match u (skT T a + 1) with
          | .inl w => .inl w
          | .inr (q, l) => .inr (q, l ++ [(33, 0)])) := by
          unfold unF
          rw [if_pos hsg2]
          rfl
        refine s3 e N _ (skT T a + 1) n (by omega) sN (hT.kf gN.1) gN.2.1 (by omega) gN.2.2.2.1 (by omega) (fun M3 b hO => ⟨b, rfl, hO.kf.shp sN, ?_⟩)
        have hok := s2 (skT T a + 1) (by omega)
        cases hr : u (skT T a + 1) with
        | inl w =>
          rw [hr] at hO hv
          obtain ⟨b0, kf, e3⟩ := hO.lft
          refine ⟨fun z => absurd b0 z, fun _ => h M3 0 ?_⟩
          rw [hv]
          exact ⟨rfl, gN.1.trans kf, e3⟩
        | inr x =>
          obtain ⟨q, l⟩ := x
          rw [hr] at hO hv hok
          obtain ⟨b1, ka⟩ := hO.rgt
          obtain ⟨o1, o2, o3⟩ := hok
          have g3 : KA M M3 n q l := gN.trans ka
          refine ⟨fun _ N5 hN5 _ => h N5 1 ?_, fun z => absurd (by omega) z⟩
          rw [hv]
          exact ⟨rfl, g3.add (by omega) hN5⟩
  · have hs : sub = none := by
      cases hs : sub with
      | none => rfl
      | some u => exact absurd (hsub u hs).1 (by omega)
    have hv : unF T s sub a = .inl (skT T a) := by
      rw [hs]
      unfold unF
      rcases h3 with z | z
      · rw [if_pos (by rw [hsg, z])]
      · rw [if_neg (by rw [hsg, z]; decide), if_pos (by rw [hsg, z])]
    rw [hv]
    exact ⟨rfl, KF.refl.si3 hN, by rw [hN, iv_si, if_pos ⟨rfl, rfl⟩]; exact ha⟩
theorem CP_un (hskip : ∀ a, s (skT T a) = s a) (hs : CP T D mX4_readSum [vR 19, vR 7, vI (dp : Int)] s) (hok : okP T s) (hdp : dp ≤ 6) (hsub : ∀ u, sub = some u → dp < 6 ∧ okP T u ∧ CP T D mX4_readUnit [vR 19, vR 7, vI ((dp + 1 : Nat) : Int), vI 0] u ∧ CP T D mX4_readCondition [vR 19, vR 7, vI ((dp + 1 : Nat) : Int), vI 0] (fun b => cdF T u (u b))) (hnone : sub = none → dp = 6) : CP T (D + 9) mX4_readUnit [vR 19, vR 7, vI (dp : Int), vI 0] (unF T s sub) := by
  intro k M Q a n hk hS hT ha ha2 hn hna h
  obtain ⟨e, rfl⟩ := dd (d := k) (by omega)
  have h240 := hT.2.1
  have hk1 := (skT_in (T := T) a).1
  have hk2 := (skT_in (T := T) a).2 ha2
  have nest : ∀ M2, KN M M2 → iv M2 7 2 = ((skT T a : Nat) : Int) → (nxT T a = 33 ∨ nxT T a = 40) → Call e mX4_readNested [vR 19, vR 7, vI (dp : Int), vI (nxT T a)] M2 (fun r29 M27 => ∃ z26 : Int, r29 = some (vI z26) ∧ Shp M27 ∧ ((z26 = 0 ∨ z26 = 1) ∧ Q (some (vI z26)) M27)) := by
    intro M2 k2 e2 h3
    refine c_nested (s := s) hdp hsub hnone (by omega) (k2.1.shp hS) (hT.kf k2.kf) e2 ha2 (by rw [k2.1.eiv (by decide)]; exact hn) hna rfl h3 (fun M' b hO => ⟨b, rfl, hO.kf.shp (k2.1.shp hS), ?_, h M' b (hO.pre k2)⟩)
    cases hr : unF T s sub a with
    | inl w => rw [hr] at hO; exact Or.inl hO.lft.1
    | inr x => rw [hr] at hO; exact Or.inr hO.rgt.1
  refine vk_readUnit (by omega) hS ⟨fun z => absurd rfl z, fun _ => c_next (by omega) hS hT ha (fun M2 k2 e2 => ⟨_, rfl, k2.1.shp hS, fun z => nest M2 k2 e2 (Or.inl z), fun z => ⟨fun y => ?_, fun y => nest M2 k2 e2 (Or.inr (Classical.not_not.mp y))⟩⟩)⟩
  have hv : unF T s sub a = cmF T s (s a) := by
    unfold unF
    rw [if_neg z, if_neg y]
  have s2 := k2.1.shp hS
  refine hs e M2 _ (skT T a) n (by omega) s2 (hT.kf k2.kf) e2 hk2 (by rw [k2.1.eiv (by decide)]; exact hn) (by omega) (fun M3 b hO => ⟨b, rfl, hO.kf.shp s2, ?_⟩)
  have hok1 := hok (skT T a) hk2
  rw [hskip a] at hO hok1
  cases hr : s a with
  | inl w =>
    rw [hr] at hO hv
    obtain ⟨b0, kf, e3⟩ := hO.lft
    refine ⟨fun z => absurd b0 z, fun _ => h M3 0 ?_⟩
    rw [hv]
    exact ⟨rfl, k2.kf.trans kf, e3⟩
  | inr x =>
    obtain ⟨q, l⟩ := x
    rw [hr] at hO hv hok1
    obtain ⟨b1, ka⟩ := (hO.pre k2).rgt
    obtain ⟨o1, o2, o3⟩ := hok1
    refine ⟨fun _ => ?_, fun z => absurd (by omega) z⟩
    exact c_cmp hs hok (by omega) hS hT ka (by omega) o3 (fun M' b hO => h M' b (by rw [hv]; exact hO))
theorem tr_lp {e n : Nat} {M0 : jM} {Q : Option jV → jM → Prop} {bg : Int} (hs : CP T D mX4_readUnit [vR 19, vR 7, vI (dp : Int), vI 0] s) (hok : okP T s) (he : D + 6 ≤ e) (hS : Shp M0) (hT : KT M0 T) : ∀ f i a l M1, T.2 - a ≤ f → i ≤ a → KA M0 M1 n a l → n + l.length ≤ a → a ≤ T.2 → (∀ M' b, KO M0 M' n (lpF T oN s f a l) b → Q (some (vI b)) M') → Run (e + 1) mX4_readTruth 15 [some (vR 19), some (vR 7), some (vI (dp : Int)), some (vI bg), some (vI (i : Int))] [] M1 Q := by
  have h240 := hT.2.1
  intro f
  induction f with
  | zero =>
    intro i a l M1 hf hi g hl hat h
    obtain ⟨z1, z2⟩ := nxT_end (T := T) (a := a) (by omega)
    have s1 := g.1.shp hS
    have fin : ∀ M', KN M1 M' → iv M' 7 2 = ((skT T a : Nat) : Int) → Q (some (vI 1)) M' := fun M' k' e' => h M' 1 ⟨rfl, g.next k' e'⟩
    refine vk_readTruth_15 (by omega) s1 ⟨fun _ => fin M1 KN.refl (by rw [z2]; exact g.2.1), fun _ => c_take (by omega) s1 (hT.kf g.1) g.2.1 (by decide) (fun z => ?_) (fun z M9 k9 e9 => ⟨_, rfl, k9.1.shp s1, fun _ => fin M9 k9 e9, fun y => absurd rfl y⟩)⟩
    rw [z1] at z; exact absurd z (by decide)
  | succ f ih =>
    intro i a l M1 hf hi g hl hat h
    have s1 := g.1.shp hS
    have hk1 := (skT_in (T := T) a).1
    simp only [lpF] at h
    have fin : ¬ oN (nxT T a) = true → ∀ M', KN M1 M' → iv M' 7 2 = ((skT T a : Nat) : Int) → Q (some (vI 1)) M' := fun c M' k' e' => by
      rw [if_neg c] at h
      exact h M' 1 ⟨rfl, g.next k' e'⟩
    by_cases hend : 240 ≤ i
    · obtain ⟨z1, z2⟩ := nxT_end (T := T) (a := a) (by omega)
      exact vk_readTruth_15 (by omega) s1 ⟨fun _ => fin (by rw [z1]; decide) M1 KN.refl (by rw [z2]; exact g.2.1), fun z => absurd (by omega) z⟩
    · refine vk_readTruth_15 (by omega) s1 ⟨fun z => absurd z (by omega), fun _ => c_take (by omega) s1 (hT.kf g.1) g.2.1 (by decide) (fun z N kN eN => ⟨_, rfl, kN.1.shp s1, fun y => absurd y (by decide), fun _ => ?_⟩) (fun z M9 k9 e9 => ⟨_, rfl, k9.1.shp s1, fun _ => fin (fun x => ?_) M9 k9 e9, fun y => absurd rfl y⟩)⟩
      · have hlt : skT T a < T.2 := nxT_lt (by rw [z]; decide)
        rw [if_pos (by rw [z]; rfl), z] at h
        have sN := kN.1.shp s1
        have gN : KA M0 N n (skT T a + 1) l := g.next kN eN
        refine hs e N _ (skT T a + 1) (n + l.length) (by omega) sN (hT.kf gN.1) gN.2.1 (by omega) gN.2.2.2.1 (by omega) (fun M3 b hO => ⟨b, rfl, hO.kf.shp sN, ?_⟩)
        have hr1 := hok (skT T a + 1) (by omega)
        cases hr : s (skT T a + 1) with
        | inl w =>
          rw [hr] at hO h
          obtain ⟨b0, kf, e3⟩ := hO.lft
          exact ⟨fun z => absurd b0 z, fun _ => h M3 0 ⟨rfl, gN.1.trans kf, e3⟩⟩
        | inr x =>
          obtain ⟨q, l'⟩ := x
          rw [hr] at hO h hr1
          obtain ⟨b1, ka⟩ := hO.rgt
          obtain ⟨o1, o2, o3⟩ := hr1
          have g3 : KA M0 M3 n q (l ++ l') := gN.trans ka
          refine ⟨fun _ N5 hN5 _ => ?_, fun z => absurd (by omega) z⟩
          have g5 := g3.add (by rw [List.length_append]; omega) hN5
          rw [w32s (by omega)]
          exact ih (i + 1) q _ N5 (by omega) (by omega) g5 (by rw [List.length_append, List.length_append]; show n + (l.length + l'.length + 1) ≤ q; omega) o3 h
      · unfold oN at x
        rw [beq_iff_eq] at x
        exact z x
theorem CP_tr (hs : CP T D mX4_readUnit [vR 19, vR 7, vI (dp : Int), vI 0] s) (hok : okP T s) : CP T (D + 7) mX4_readTruth [vR 19, vR 7, vI (dp : Int), vI 0] (fun a => chB T oN s (s a)) := by
  intro k M Q a0 n hk hS hT ha ha2 hn hna h
  obtain ⟨e, rfl⟩ := dd (d := k) (by omega)
  have h : ∀ M' b, KO M M' n (chB T oN s (s a0)) b → Q (some (vI b)) M' := h
  refine vk_readTruth (by omega) hS (hs e M _ a0 n (by omega) hS hT ha ha2 hn hna (fun M2 b hO => ⟨b, rfl, hO.kf.shp hS, ?_⟩))
  have hr0 := hok a0 ha2
  cases hr : s a0 with
  | inl w =>
    rw [hr] at hO h
    obtain ⟨b0, kf, e3⟩ := hO.lft
    exact ⟨fun z => absurd b0 z, fun _ => h M2 0 ⟨rfl, kf, e3⟩⟩
  | inr x =>
    obtain ⟨q0, l0⟩ := x
    rw [hr] at hO h hr0
    obtain ⟨b1, ka0⟩ := hO.rgt
    obtain ⟨o1, o2, o3⟩ := hr0
    exact ⟨fun _ => tr_lp hs hok (by omega) hS hT T.2 0 q0 l0 M2 (by omega) (Nat.zero_le _) ka0 (by omega) o3 h, fun z => absurd (by omega) z⟩
theorem CQ_tr {f : jR → jR} (hf : CQ T D mX4_readUnit [vR 19, vR 7, vI (dp : Int), vI 1] f) (hs : CP T D mX4_readUnit [vR 19, vR 7, vI (dp : Int), vI 0] s) (hok : okP T s) (hokE : ∀ a n l, n + l.length ≤ a → a ≤ T.2 → match f (.inr (a, l)) with
    | .inl _ => True
    | .inr (q, l') => n + l'.length ≤ q ∧ q ≤ T.2) : CQ T (D + 7) mX4_readTruth [vR 19, vR 7, vI (dp : Int), vI 1] (fun r => chB T oN s (f r)) := by
  intro k M0 M Q a n l hk hS hT g hl ha h
  obtain ⟨e, rfl⟩ := dd (d := k) (by omega)
  have h : ∀ M' b, KO M0 M' n (chB T oN s (f (.inr (a, l)))) b → Q (some (vI b)) M' := h
  have sM := g.1.shp hS
  refine vk_readTruth (by omega) sM (hf e M0 M _ a n l (by omega) hS hT g hl ha (fun M2 b hO => ⟨b, rfl, hO.kf.shp hS, ?_⟩))
  have hr0 := hokE a n l hl ha
  cases hr : f (.inr (a, l)) with
  | inl w =>
    rw [hr] at hO h
    obtain ⟨b0, kf, e3⟩ := hO.lft
    exact ⟨fun z => absurd b0 z, fun _ => h M2 0 ⟨rfl, kf, e3⟩⟩
  | inr x =>
    obtain ⟨q0, l0⟩ := x
    rw [hr] at hO h hr0
    obtain ⟨b1, ka0⟩ := hO.rgt
    obtain ⟨o1, o2⟩ := hr0
    exact ⟨fun _ => tr_lp hs hok (by omega) hS hT T.2 0 q0 l0 M2 (by omega) (Nat.zero_le _) ka0 o1 o2 h, fun z => absurd (by omega) z⟩
theorem cd_lp {e n : Nat} {M0 : jM} {Q : Option jV → jM → Prop} {bg : Int} (hs : CP T D mX4_readTruth [vR 19, vR 7, vI (dp : Int), vI 0] s) (hok : okP T s) (he : D + 6 ≤ e) (hS : Shp M0) (hT : KT M0 T) : ∀ f i a l M1, T.2 - a ≤ f → i ≤ a → KA M0 M1 n a l → n + l.length ≤ a → a ≤ T.2 → (∀ M' b, KO M0 M' n (lpF T oO s f a l) b → Q (some (vI b)) M') → Run (e + 1) mX4_readCondition 15 [some (vR 19), some (vR 7), some (vI (dp : Int)), some (vI bg), some (vI (i : Int))] [] M1 Q := by
  have h240 := hT.2.1
  intro f
  induction f with
  | zero =>
    intro i a l M1 hf hi g hl hat h
    obtain ⟨z1, z2⟩ := nxT_end (T := T) (a := a) (by omega)
    have s1 := g.1.shp hS
    have fin : ∀ M', KN M1 M' → iv M' 7 2 = ((skT T a : Nat) : Int) → Q (some (vI 1)) M' := fun M' k' e' => h M' 1 ⟨rfl, g.next k' e'⟩
    refine vk_readCondition_15 (by omega) s1 ⟨fun _ => fin M1 KN.refl (by rw [z2]; exact g.2.1), fun _ => c_take (by omega) s1 (hT.kf g.1) g.2.1 (by decide) (fun z => ?_) (fun z M9 k9 e9 => ⟨_, rfl, k9.1.shp s1, fun _ => fin M9 k9 e9, fun y => absurd rfl y⟩)⟩
    rw [z1] at z; exact absurd z (by decide)
  | succ f ih =>
    intro i a l M1 hf hi g hl hat h
    have s1 := g.1.shp hS
    have hk1 := (skT_in (T := T) a).1
    simp only [lpF] at h
    have fin : ¬ oO (nxT T a) = true → ∀ M', KN M1 M' → iv M' 7 2 = ((skT T a : Nat) : Int) → Q (some (vI 1)) M' := fun c M' k' e' => by
      rw [if_neg c] at h
      exact h M' 1 ⟨rfl, g.next k' e'⟩
    by_cases hend : 240 ≤ i
    · obtain ⟨z1, z2⟩ := nxT_end (T := T) (a := a) (by omega)
      exact vk_readCondition_15 (by omega) s1 ⟨fun _ => fin (by rw [z1]; decide) M1 KN.refl (by rw [z2]; exact g.2.1), fun z => absurd (by omega) z⟩
    · refine vk_readCondition_15 (by omega) s1 ⟨fun z => absurd z (by omega), fun _ => c_take (by omega) s1 (hT.kf g.1) g.2.1 (by decide) (fun z N kN eN => ⟨_, rfl, kN.1.shp s1, fun y => absurd y (by decide), fun _ => ?_⟩) (fun z M9 k9 e9 => ⟨_, rfl, k9.1.shp s1, fun _ => fin (fun x => ?_) M9 k9 e9, fun y => absurd rfl y⟩)⟩
      · have hlt : skT T a < T.2 := nxT_lt (by rw [z]; decide)
        rw [if_pos (by rw [z]; rfl), z] at h
        have sN := kN.1.shp s1
        have gN : KA M0 N n (skT T a + 1) l := g.next kN eN
        refine hs e N _ (skT T a + 1) (n + l.length) (by omega) sN (hT.kf gN.1) gN.2.1 (by omega) gN.2.2.2.1 (by omega) (fun M3 b hO => ⟨b, rfl, hO.kf.shp sN, ?_⟩)
        have hr1 := hok (skT T a + 1) (by omega)
        cases hr : s (skT T a + 1) with
        | inl w =>
          rw [hr] at hO h
          obtain ⟨b0, kf, e3⟩ := hO.lft
          exact ⟨fun z => absurd b0 z, fun _ => h M3 0 ⟨rfl, gN.1.trans kf, e3⟩⟩
        | inr x =>
          obtain ⟨q, l'⟩ := x
          rw [hr] at hO h hr1
          obtain ⟨b1, ka⟩ := hO.rgt
          obtain ⟨o1, o2, o3⟩ := hr1
          have g3 : KA M0 M3 n q (l ++ l') := gN.trans ka
          refine ⟨fun _ N5 hN5 _ => ?_, fun z => absurd (by omega) z⟩
          have g5 := g3.add (by rw [List.length_append]; omega) hN5
          rw [w32s (by omega)]
          exact ih (i + 1) q _ N5 (by omega) (by omega) g5 (by rw [List.length_append, List.length_append]; show n + (l.length + l'.length + 1) ≤ q; omega) o3 h
      · unfold oO at x
        rw [beq_iff_eq] at x
        exact z x
theorem CP_cd (hs : CP T D mX4_readTruth [vR 19, vR 7, vI (dp : Int), vI 0] s) (hok : okP T s) : CP T (D + 7) mX4_readCondition [vR 19, vR 7, vI (dp : Int), vI 0] (fun a => chB T oO s (s a)) := by
  intro k M Q a0 n hk hS hT ha ha2 hn hna h
  obtain ⟨e, rfl⟩ := dd (d := k) (by omega)
  have h : ∀ M' b, KO M M' n (chB T oO s (s a0)) b → Q (some (vI b)) M' := h
  refine vk_readCondition (by omega) hS (hs e M _ a0 n (by omega) hS hT ha ha2 hn hna (fun M2 b hO => ⟨b, rfl, hO.kf.shp hS, ?_⟩))
  have hr0 := hok a0 ha2
  cases hr : s a0 with
  | inl w =>
    rw [hr] at hO h
    obtain ⟨b0, kf, e3⟩ := hO.lft
    exact ⟨fun z => absurd b0 z, fun _ => h M2 0 ⟨rfl, kf, e3⟩⟩
  | inr x =>
    obtain ⟨q0, l0⟩ := x
    rw [hr] at hO h hr0
    obtain ⟨b1, ka0⟩ := hO.rgt
    obtain ⟨o1, o2, o3⟩ := hr0
    exact ⟨fun _ => cd_lp hs hok (by omega) hS hT T.2 0 q0 l0 M2 (by omega) (Nat.zero_le _) ka0 (by omega) o3 h, fun z => absurd (by omega) z⟩
theorem CQ_cd {f : jR → jR} (hf : CQ T D mX4_readTruth [vR 19, vR 7, vI (dp : Int), vI 1] f) (hs : CP T D mX4_readTruth [vR 19, vR 7, vI (dp : Int), vI 0] s) (hok : okP T s) (hokE : ∀ a n l, n + l.length ≤ a → a ≤ T.2 → match f (.inr (a, l)) with
    | .inl _ => True
    | .inr (q, l') => n + l'.length ≤ q ∧ q ≤ T.2) : CQ T (D + 7) mX4_readCondition [vR 19, vR 7, vI (dp : Int), vI 1] (fun r => chB T oO s (f r)) := by
  intro k M0 M Q a n l hk hS hT g hl ha h
  obtain ⟨e, rfl⟩ := dd (d := k) (by omega)
  have h : ∀ M' b, KO M0 M' n (chB T oO s (f (.inr (a, l)))) b → Q (some (vI b)) M' := h
  have sM := g.1.shp hS
  refine vk_readCondition (by omega) sM (hf e M0 M _ a n l (by omega) hS hT g hl ha (fun M2 b hO => ⟨b, rfl, hO.kf.shp hS, ?_⟩))
  have hr0 := hokE a n l hl ha
  cases hr : f (.inr (a, l)) with
  | inl w =>
    rw [hr] at hO h
    obtain ⟨b0, kf, e3⟩ := hO.lft
    exact ⟨fun z => absurd b0 z, fun _ => h M2 0 ⟨rfl, kf, e3⟩⟩
  | inr x =>
    obtain ⟨q0, l0⟩ := x
    rw [hr] at hO h hr0
    obtain ⟨b1, ka0⟩ := hO.rgt
    obtain ⟨o1, o2⟩ := hr0
    exact ⟨fun _ => cd_lp hs hok (by omega) hS hT T.2 0 q0 l0 M2 (by omega) (Nat.zero_le _) ka0 o1 o2 h, fun z => absurd (by omega) z⟩
theorem smF_sk {sub : Option (Nat → jR)} {a : Nat} : smF T sub (skT T a) = smF T sub a := by
  have e : atF T sub (skT T a) = atF T sub a := by
    unfold atF
    rw [nxT_sk, skT_sk]
  unfold smF tmF
  rw [e]
theorem smK_sk {k a : Nat} : smK T k (skT T a) = smK T k a := by rw [smK_e]; exact smF_sk
theorem cmF_ok {k a n : Nat} {l : List (Int × Int)} (hl : n + l.length ≤ a) (ha : a ≤ T.2) : match cmF T (smK T k) (.inr (a, l)) with
    | .inl _ => True
    | .inr (q, l') => n + l'.length ≤ q ∧ q ≤ T.2 := by
  have hk := (skT_in (T := T) a).1
  unfold cmF
  dsimp only
  by_cases c : fSg (nxT T a) = 1
  · rw [if_pos c]
    have hlt : skT T a < T.2 := nxT_lt (fun y => by rw [y] at c; exact absurd c (by decide))
    have h := okP_smK (T := T) k (skT T a + 1) (by omega)
    revert h
    cases smK T k (skT T a + 1) with
    | inl w => exact fun _ => trivial
    | inr y =>
      obtain ⟨q', l'⟩ := y
      intro h
      obtain ⟨g1, g2, g3⟩ := h
      exact ⟨by rw [List.length_append, List.length_append]; show n + (l.length + l'.length + 1) ≤ q'; omega, g3⟩
  · rw [if_neg c]; exact trivial
theorem lpF_ok {o : Int → Bool} (hok : okP T s) (ho : o (-1) = false) {n : Nat} : ∀ f a l, n + l.length ≤ a → a ≤ T.2 → match lpF T o s f a l with
    | .inl _ => True
    | .inr (q, l') => n + l'.length ≤ q ∧ q ≤ T.2
  | 0, a, l, h1, h3 => by
    have hk := (skT_in (T := T) a).1
    exact ⟨by omega, (skT_in (T := T) a).2 h3⟩
  | f + 1, a, l, h1, h3 => by
    have hk := (skT_in (T := T) a).1
    simp only [lpF]
    by_cases c : o (nxT T a) = true
    · rw [if_pos c]
      have hl : skT T a < T.2 := nxT_lt (fun z => by rw [z, ho] at c; exact absurd c (by decide))
      have h := hok (skT T a + 1) (by omega)
      revert h
      cases s (skT T a + 1) with
      | inl w => exact fun _ => trivial
      | inr x =>
        obtain ⟨q, l'⟩ := x
        intro h
        obtain ⟨g1, g2, g3⟩ := h
        exact lpF_ok hok ho f q _ (by rw [List.length_append, List.length_append]; show n + (l.length + l'.length + 1) ≤ q; omega) g3
    · rw [if_neg c]
      exact ⟨by omega, (skT_in (T := T) a).2 h3⟩
theorem chB_ok {o : Int → Bool} (hok : okP T s) (ho : o (-1) = false) {n : Nat} {r : jR} (hr : match r with
    | .inl _ => True
    | .inr (q, l') => n + l'.length ≤ q ∧ q ≤ T.2) : match chB T o s r with
    | .inl _ => True
    | .inr (q, l') => n + l'.length ≤ q ∧ q ≤ T.2 := by
  unfold chB
  revert hr
  cases r with
  | inl w => exact fun _ => trivial
  | inr x => exact fun h => lpF_ok hok ho _ _ _ h.1 h.2
/-- conditions, a nest after the other -/
theorem CP_unK : ∀ (k dp : Nat), dp + k = 6 → CP T (60 * k + 60) mX4_readUnit [vR 19, vR 7, vI (dp : Int), vI 0] (unK T k) ∧ CP T (60 * k + 75) mX4_readCondition [vR 19, vR 7, vI (dp : Int), vI 0] (fun b => cdF T (unK T k) (unK T k b))
  | 0, dp, h => by
    have h0 := CP_smK (T := T) 0 dp h
    have h1 : CP T (30 * 0 + 30 + 9) mX4_readUnit [vR 19, vR 7, vI (dp : Int), vI 0] (unF T (smK T 0) none) := CP_un (fun a => smK_sk) h0 (okP_smK 0) (by omega) (fun u hu => by cases hu) (fun _ => by omega)
    have h2 := CP_tr h1 (okP_unK (T := T) 0)
    have h3 := CP_cd h2 (fun b hb => okR_ch (okP_unK (T := T) 0) rfl (okP_unK (T := T) 0 b hb))
    exact ⟨fun k M Q a n hk => h1 k M Q a n (by omega), fun k M Q a n hk => h3 k M Q a n (by omega)⟩
  | k + 1, dp, h => by
    have h0 := CP_smK (T := T) (k + 1) dp h
    obtain ⟨u1, u2⟩ := CP_unK k (dp + 1) (by omega)
    have h1 : CP T (60 * k + 75 + 9) mX4_readUnit [vR 19, vR 7, vI (dp : Int), vI 0] (unF T (smK T (k + 1)) (some (unK T k))) := CP_un (fun a => smK_sk) (fun k M Q a n hk => h0 k M Q a n (by omega)) (okP_smK (k + 1)) (by omega) (fun u hu => by cases hu; exact ⟨by omega, okP_unK k, fun k M Q a n hk => u1 k M Q a n (by omega), u2⟩) (fun hu => by cases hu)
    have h2 := CP_tr h1 (okP_unK (T := T) (k + 1))
    have h3 := CP_cd h2 (fun b hb => okR_ch (okP_unK (T := T) (k + 1)) rfl (okP_unK (T := T) (k + 1) b hb))
    exact ⟨fun k M Q a n hk => h1 k M Q a n (by omega), fun k M Q a n hk => h3 k M Q a n (by omega)⟩
/-- a condition whose first sum is read -/
theorem CQ_cond : CQ T 450 mX4_readCondition [vR 19, vR 7, vI 0, vI 1] (fun r => cdF T (unK T 6) (cmF T (smK T 6) r)) := by
  have h0 : CP T 210 mX4_readSum [vR 19, vR 7, vI ((0 : Nat) : Int)] (smK T 6) := CP_smK (T := T) 6 0 rfl
  have h1 : CQ T 217 mX4_readUnit [vR 19, vR 7, vI ((0 : Nat) : Int), vI 1] (cmF T (smK T 6)) := CQ_un h0 (okP_smK 6)
  obtain ⟨u1, _⟩ := CP_unK (T := T) 6 0 rfl
  have h2 := CQ_tr (D := 420) (fun k M0 M Q a n l hk => h1 k M0 M Q a n l (by omega)) u1 (okP_unK (T := T) 6) (fun a n l hl ha => cmF_ok hl ha)
  have t1 := CP_tr u1 (okP_unK (T := T) 6)
  have h3 := CQ_cd h2 t1 (fun b hb => okR_ch (okP_unK (T := T) 6) rfl (okP_unK (T := T) 6 b hb)) (fun a n l hl ha => chB_ok (okP_unK (T := T) 6) rfl (cmF_ok hl ha))
  exact fun k M0 M Q a n l hk => h3 k M0 M Q a n l (by omega)
end CRead3
