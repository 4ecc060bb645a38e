/-! THE MODEL reads: atoms, terms, sums -/
def MP (T : jT) (k d : Nat) (me : jMe) (s : Nat → jR) : Prop := ∀ (kk : Nat) (M : jM) (Q : Option jV → jM → Prop) (a n t dp : Nat), d ≤ kk → Shp M → MT M T → t < 5 → iv M 468 14 = (t : Int) → iv M 468 3 = (a : Int) → a ≤ T.2 → iv M 468 4 = -1 → iv M 468 5 = (dp : Int) → dp + k = 6 → iv M 472 t = (n : Int) → n ≤ a → (∀ M', MO t n a dp M M' (s a) → Q none M') → Call kk me [vR 468] M Q
section MRead2
variable {T : jT} {k D : Nat} {sub : Option (Nat → jR)}
theorem MP_at (hsub : ∀ s, sub = some s → ∃ k', k = k' + 1 ∧ okP T s ∧ MP T k' D mX11_sum s) (hnone : sub = none → k = 0) : MP T k (D + 12) mX11_atom (atF T sub) := by
  intro kk M Q a n t dp hk hS hT ht h14 ha ha2 hw hdp hdk hn hna h
  obtain ⟨e, rfl⟩ := dd (d := kk) (by omega)
  have hk1 := (skT_in (T := T) a).1
  have hk2 := (skT_in (T := T) a).2 ha2
  have h240 := hT.2.1
  have g0 : MA t n dp M M a [] := MA.start ha hw hdp hn
  refine vn_atom (by omega) hS (m_look (by omega) hS hT ha (fun M2 k2 e2 => ⟨_, rfl, k2.1.shp hS, fun c1 => ⟨fun c2 => ⟨fun c3 N hN _ => ?_, fun c3 => ?_⟩, fun c2 N hN sN => ?_⟩, fun c1 => ?_⟩))
  · rw [fDg_0] at c1
    have hv := atF_num (T := T) (sub := sub) (a := a) c2 (fun z => absurd z c3)
    have hm : nmT T 4 a = .inl (skT T a) := if_neg c1
    rw [hm] at hv
    refine h N ?_
    rw [hv]
    exact (g0.next k2 e2).bad hN (by show a + 0 + 0 ≤ _; omega) (by omega)
  · have c3 := Classical.not_not.mp c3
    have hl : skT T a < T.2 := nxT_lt (by rw [c3]; decide)
    have s2 := k2.1.shp hS
    have g2 := g0.next k2 e2
    refine m_opens (by omega) s2 e2 g2.2.1.2.2 (by omega) (by omega) (fun d6 N kN n3 n4 n5 => ⟨rfl, kN.1.shp s2, fun z => absurd (n4.trans g2.wr) z, fun _ => ?_⟩) (fun d6 N1 N hN1 kN n3 n4 n5 => ⟨rfl, kN.1.shp (by rw [hN1]; exact s2), fun _ => ?_, fun z => ?_⟩)
    · cases hs : sub with
      | none => exact absurd (hnone hs) (by omega)
      | some s =>
        obtain ⟨k', kk', s2', s3⟩ := hsub s hs
        have hv := atF_sub (T := T) (s := s) c3
        rw [hs] at h
        have gN : MA t n (dp + 1) M N (skT T a + 1) [] := g2.step kN n3 (n4.trans g2.wr) n5
        have sN := kN.1.shp s2
        refine s3 e N _ (skT T a + 1) n t (dp + 1) (by omega) sN (gN.1.mt hT) ht (by rw [gN.1.2.1 14 (by decide) (by decide) (by decide)]; exact h14) n3 (by omega) gN.wr n5 (by omega) gN.2.2.1 (by omega) (fun M3 hO => ⟨rfl, hO.mf.shp sN, ?_⟩)
        have hok := s2' (skT T a + 1) (by omega)
        cases hr : s (skT T a + 1) with
        | inl w =>
          rw [hr] at hO hv
          refine m_closesB (by omega) hS (hO.lft.of gN.1 (a := a) (n := n) (s := 0) (dp := dp + 1) (by omega) (Nat.le_refl _)) (fun N2 hb => ⟨rfl, hb.1.shp hS, h N2 ?_⟩)
          rw [hv]
          exact hb
        | inr x =>
          obtain ⟨q, l⟩ := x
          rw [hr] at hO hv hok
          obtain ⟨o1, o2, o3⟩ := hok
          have g3 : MA t n (dp + 1) M M3 q l := gN.trans hO.rgt
          refine m_closesA (a := a) (by omega) hS hT g3 (by omega) o3 (by omega) (fun z N2 hb => ⟨rfl, hb.1.shp hS, h N2 ?_⟩) (fun z N2 hb => ⟨rfl, hb.1.shp hS, h N2 ?_⟩)
          · rw [hv]
            dsimp only
            rw [if_pos z]
            exact hb
          · rw [hv]
            dsimp only
            rw [if_neg z]
            exact hb
    · have hs : sub = none := by
        cases hs : sub with
        | none => rfl
        | some s => obtain ⟨k', kk', _⟩ := hsub s hs; omega
      have hv : atF T sub a = .inl (skT T a) := by
        have hv := atF_num (T := T) (sub := sub) (a := a) (by rw [c3]; decide) (fun _ => hs)
        have hm : nmT T 4 a = .inl (skT T a) := if_neg (by rw [c3]; decide)
        rw [hm] at hv
        exact hv
      refine h N ?_
      rw [hv]
      obtain ⟨b1, b2, cc, p, dq, q1, q2, q3, q4, q5, q6⟩ := g2.bad (a := a) (s := 0) hN1 (by show a + 0 + 0 ≤ _; omega) (by omega)
      have e1 : iv N1 468 3 = ((skT T a : Nat) : Int) := by rw [si_ne hN1 (by decide)]; exact e2
      have e5 : iv N1 468 5 = (dp : Int) := by rw [si_ne hN1 (by decide)]; exact g2.2.1.2.2
      exact ⟨b1.trans kN.mf, n4.trans b2, cc, p + 1, dp + 1, by rw [kN.1.eiv (by decide)]; exact q1, by rw [n3]; omega, n5, by omega, by omega, by omega⟩
    · rw [n4, si_at hN1, g2.wr, if_pos rfl, e2] at z
      omega
  · have hl : skT T a < T.2 := nxT_lt (fun z => by rw [z] at c2; exact c2 (by decide))
    have g2 := g0.next k2 e2
    rw [e2, w32s (by omega)] at hN
    have gN : MA t n dp M N (skT T a + 1) [] := g2.next (MN.refl.si hN) (si_at hN)
    refine m_put (cc := n) (by omega) sN ht (by rw [gN.1.2.1 14 (by decide) (by decide) (by decide)]; exact h14) gN.2.2.1 (by omega) (fun N2 hN2 => ⟨rfl, (gN.put (by show n + 0 < 520; omega) hN2 (by decide)).1.shp hS, h N2 ?_⟩)
    rw [atF_let c2]
    exact gN.put (by show n + 0 < 520; omega) hN2 (by decide)
  · rw [fDg_0, Classical.not_not] at c1
    have c2 : fLt (nxT T a) = -1 := by
      have := fDg_1.mp c1
      unfold fLt
      rw [if_neg (by omega), if_neg (by omega), if_neg (by omega), if_neg (by omega), if_neg (by omega), if_neg (by omega)]
    have hv := atF_num (T := T) (sub := sub) (a := a) c2 (fun z => absurd c1 (by rw [z]; decide))
    have hm : nmT T 4 a = dgF T 4 (skT T a) 0 := if_pos c1
    rw [hm] at hv
    have s2 := k2.1.shp hS
    have g2 := g0.next k2 e2
    refine m_plain (by omega) s2 (g2.1.mt hT) e2 hk2 (fun q v hq M3 k3 e3 => ⟨_, rfl, k3.1.shp s2, ?_⟩) (fun w hq M3 N z k3 e3 hN => ⟨_, rfl, by rw [hN]; exact k3.1.shp s2, ?_⟩)
    · rw [hq] at hv
      have g3 := g2.next k3 e3
      have hqi := dgF_in (T := T) 4 (skT T a) 0 hk2
      rw [hq] at hqi
      refine m_put (cc := n) (by omega) (k3.1.shp s2) ht (by rw [g3.1.2.1 14 (by decide) (by decide) (by decide)]; exact h14) g3.2.2.1 (by omega) (fun N2 hN2 => ⟨rfl, (g3.put (by show n + 0 < 520; omega) hN2 (by decide)).1.shp hS, h N2 ?_⟩)
      rw [hv]
      exact g3.put (by show n + 0 < 520; omega) hN2 (by decide)
    · rw [hq] at hv
      have g3 := g2.next k3 e3
      have hqi := dgF_in (T := T) 4 (skT T a) 0 hk2
      rw [hq] at hqi
      have hw4 := dgF_w 4 (skT T a) 0 w hq
      have hb := g3.bad (a := a) (s := 1) hN (by show a + 0 + 1 ≤ w; omega) (by show w + dp ≤ 255; have : w ≤ T.2 := hqi; omega)
      refine hb.put hna (by omega) hS ht h14 (fun N2 hb2 => ⟨rfl, hb2.1.shp hS, h N2 ?_⟩)
      rw [hv]
      exact hb2
theorem MP_tm_lp {s : Nat → jR} {e n t a0 dp : Nat} {M0 : jM} {Q : Option jV → jM → Prop} (hs : MP T k D mX11_atom s) (hok : okP T s) (he : D + 8 ≤ e) (hS : Shp M0) (hT : MT M0 T) (ht : t < 5) (h14 : iv M0 468 14 = (t : Int)) (hdk : dp + k = 6) (hna : n ≤ a0) : ∀ f a l M1, T.2 - a ≤ f → MA t n dp M0 M1 (skT T a) l → a0 + l.length ≤ a → a ≤ T.2 → (∀ M', MO t n a0 dp M0 M' (lpF T oM s f a l) → Q none M') → Run (e + 1) mX11_term 21 [some (vR 468), some (vI (nxT T a))] [] M1 Q := by
  have h240 := hT.2.1
  have out : ∀ M2, Shp M2 → Q none M2 → Run (e + 1) mX11_term 21 [some (vR 468), some (vI (-1))] [] M2 Q := fun M2 s2 h2 => vn_term_21 (by omega) s2 ⟨fun z => absurd z (by decide), fun _ => ⟨fun _ => h2, fun z => absurd (by decide) z⟩⟩
  intro f
  induction f with
  | zero =>
    intro a l M1 hf g hl hat h
    obtain ⟨z1, z2⟩ := nxT_end (T := T) (a := a) (by omega)
    rw [z1]
    exact out M1 (g.1.shp hS) (h M1 g)
  | succ f ih =>
    intro a l M1 hf g hl hat h
    have s1 := g.1.shp hS
    have hk1 := (skT_in (T := T) a).1
    simp only [lpF] at h
    have go : oM (nxT T a) = true → ∀ c : Int, 0 ≤ c → c ≤ 11 → trS c = nxT T a → ∀ N13 : jM, N13 = (si M1 468 3 (w32 ((iv M1 468 3) + (1 : Int)))) → Shp N13 → (Call e mX11_atom [vR 468] N13 (fun r18 M16 => r18 = none ∧ Shp M16 ∧ (Call e mX11_put [vR 468, vI c, vI (0 : Int)] M16 (fun r23 M21 => r23 = none ∧ Shp M21 ∧ ((((iv M21 468 4) ≠ (-1 : Int)) → (Run (e + 1) mX11_term 21 [some (vR 468), some (vI (-1 : Int))] [] M21 Q)) ∧ (¬ ((iv M21 468 4) ≠ (-1 : Int)) → (Call e mX11_look [vR 468] M21 (fun r29 M27 => ∃ z26 : Int, r29 = some (vI z26) ∧ Shp M27 ∧ (Run (e + 1) mX11_term 21 [some (vR 468), some (vI z26)] [] M27 Q))))))))) := by
      intro c c0 c11 ct htr N hN sN
      rw [if_pos c] at h
      have hlt : skT T a < T.2 := nxT_lt (fun y => by rw [y] at c; exact absurd c (by decide))
      rw [g.2.1.1, w32s (by omega)] at hN
      have gN : MA t n dp M0 N (skT T a + 1) l := g.next (MN.refl.si hN) (si_at hN)
      have hmt := gN.1.mt hT
      have m14 := gN.1.2.1 14 (by decide) (by decide) (by decide)
      refine hs e N _ (skT T a + 1) (n + l.length) t dp (by omega) sN hmt ht (m14.trans h14) gN.2.1.1 (by omega) gN.wr gN.2.1.2.2 hdk gN.2.2.1 (by omega) (fun M3 hO => ⟨rfl, hO.mf.shp sN, ?_⟩)
      have hr1 := hok (skT T a + 1) (by omega)
      cases hr : s (skT T a + 1) with
      | inl w =>
        rw [hr] at hO h
        refine (hO.lft.of gN.1 (a := a0) (n := n) (s := 1) (dp := dp) (by omega) (Nat.le_refl _)).put hna (by omega) hS ht h14 (fun N2 hb => ⟨rfl, hb.1.shp hS, fun _ => out N2 (hb.1.shp hS) (h N2 hb), fun z => absurd hb.wr z⟩)
      | inr x =>
        obtain ⟨q, l'⟩ := x
        rw [hr] at hO h hr1
        obtain ⟨o1, o2, o3⟩ := hr1
        have g3 : MA t n dp M0 M3 q (l ++ l') := gN.trans hO.rgt
        have hll : (l ++ l').length = l.length + l'.length := List.length_append
        refine m_put (cc := n + (l ++ l').length) (by omega) (g3.1.shp hS) ht (by rw [g3.1.2.1 14 (by decide) (by decide) (by decide)]; exact h14) g3.2.2.1 (by omega) (fun N2 hN2 => ?_)
        have g5 := g3.put (by omega) hN2 ⟨c11, ct⟩
        rw [htr] at g5
        refine ⟨rfl, g5.1.shp hS, fun z => absurd g5.wr z, fun _ => m_look (by omega) (g5.1.shp hS) (g5.1.mt hT) g5.2.1.1 (fun M4 k4 e4 => ⟨_, rfl, k4.1.shp (g5.1.shp hS), ?_⟩)⟩
        exact ih q _ M4 (by omega) (g5.next k4 e4) (by rw [List.length_append, hll]; show a0 + (l.length + l'.length + 1) ≤ q; omega) o3 h
    by_cases c : oM (nxT T a) = true
    · have c' := c
      unfold oM at c'
      rw [Bool.or_eq_true, beq_iff_eq, beq_iff_eq] at c'
      refine vn_term_21 (by omega) s1 ⟨fun z N hN sN => ?_, fun z => ⟨fun y => absurd (c'.resolve_left z) y, fun y N hN sN => ?_⟩⟩
      · rw [if_neg (fun y => y z)]
        exact go c 4 (by decide) (by decide) (by rw [z]; rfl) N hN sN
      · rw [if_pos z]
        exact go c 5 (by decide) (by decide) (by rw [Classical.not_not.mp y]; rfl) N hN sN
    · rw [if_neg c] at h
      refine vn_term_21 (by omega) s1 ⟨fun z => absurd (by rw [z]; rfl) c, fun z => ⟨fun y => h M1 g, fun y => absurd (by rw [Classical.not_not.mp y]; rfl) c⟩⟩
theorem MP_tm {s : Nat → jR} (hs : MP T k D mX11_atom s) (hok : okP T s) : MP T k (D + 9) mX11_term (fun a => chB T oM s (s a)) := by
  intro kk M Q a n t dp hk hS hT ht h14 ha ha2 hw hdp hdk hn hna h
  obtain ⟨e, rfl⟩ := dd (d := kk) (by omega)
  have h240 := hT.2.1
  have h : ∀ M', MO t n a dp M M' (chB T oM s (s a)) → Q none M' := h
  refine vn_term (by omega) hS (hs e M _ a n t dp (by omega) hS hT ht h14 ha ha2 hw hdp hdk hn hna (fun M2 hO => ⟨rfl, hO.mf.shp hS, ?_⟩))
  have s2 := hO.mf.shp hS
  have hr0 := hok a ha2
  cases hr : s a with
  | inl w =>
    rw [hr] at hO h
    exact ⟨fun _ => vn_term_21 (by omega) s2 ⟨fun z => absurd z (by decide), fun _ => ⟨fun _ => h M2 hO, fun z => absurd (by decide) z⟩⟩, fun z => absurd hO.lft.wr z⟩
  | inr x =>
    obtain ⟨q, l⟩ := x
    rw [hr] at hO h hr0
    obtain ⟨o1, o2, o3⟩ := hr0
    have g := hO.rgt
    refine ⟨fun z => absurd g.wr z, fun _ => m_look (by omega) s2 (g.1.mt hT) g.2.1.1 (fun M3 k3 e3 => ⟨_, rfl, k3.1.shp s2, ?_⟩)⟩
    exact MP_tm_lp hs hok (by omega) hS hT ht h14 hdk hna T.2 q l M3 (by omega) (g.next k3 e3) o1 o3 h
theorem MP_sm_lp {s : Nat → jR} {e n t a0 dp : Nat} {M0 : jM} {Q : Option jV → jM → Prop} (hs : MP T k D mX11_term s) (hok : okP T s) (he : D + 8 ≤ e) (hS : Shp M0) (hT : MT M0 T) (ht : t < 5) (h14 : iv M0 468 14 = (t : Int)) (hdk : dp + k = 6) (hna : n ≤ a0) : ∀ f a l M1, T.2 - a ≤ f → MA t n dp M0 M1 (skT T a) l → a0 + l.length ≤ a → a ≤ T.2 → (∀ M', MO t n a0 dp M0 M' (lpF T oA s f a l) → Q none M') → Run (e + 1) mX11_sum 21 [some (vR 468), some (vI (nxT T a))] [] M1 Q := by
  have h240 := hT.2.1
  have out : ∀ M2, Shp M2 → Q none M2 → Run (e + 1) mX11_sum 21 [some (vR 468), some (vI (-1))] [] M2 Q := fun M2 s2 h2 => vn_sum_21 (by omega) s2 ⟨fun z => absurd z (by decide), fun _ => ⟨fun _ => h2, fun z => absurd (by decide) z⟩⟩
  intro f
  induction f with
  | zero =>
    intro a l M1 hf g hl hat h
    obtain ⟨z1, z2⟩ := nxT_end (T := T) (a := a) (by omega)
    rw [z1]
    exact out M1 (g.1.shp hS) (h M1 g)
  | succ f ih =>
    intro a l M1 hf g hl hat h
    have s1 := g.1.shp hS
    have hk1 := (skT_in (T := T) a).1
    simp only [lpF] at h
    have go : oA (nxT T a) = true → ∀ c : Int, 0 ≤ c → c ≤ 11 → trS c = nxT T a → ∀ N13 : jM, N13 = (si M1 468 3 (w32 ((iv M1 468 3) + (1 : Int)))) → Shp N13 → (Call e mX11_term [vR 468] N13 (fun r18 M16 => r18 = none ∧ Shp M16 ∧ (Call e mX11_put [vR 468, vI c, vI (0 : Int)] M16 (fun r23 M21 => r23 = none ∧ Shp M21 ∧ ((((iv M21 468 4) ≠ (-1 : Int)) → (Run (e + 1) mX11_sum 21 [some (vR 468), some (vI (-1 : Int))] [] M21 Q)) ∧ (¬ ((iv M21 468 4) ≠ (-1 : Int)) → (Call e mX11_look [vR 468] M21 (fun r29 M27 => ∃ z26 : Int, r29 = some (vI z26) ∧ Shp M27 ∧ (Run (e + 1) mX11_sum 21 [some (vR 468), some (vI z26)] [] M27 Q))))))))) := by
      intro c c0 c11 ct htr N hN sN
      rw [if_pos c] at h
      have hlt : skT T a < T.2 := nxT_lt (fun y => by rw [y] at c; exact absurd c (by decide))
      rw [g.2.1.1, w32s (by omega)] at hN
      have gN : MA t n dp M0 N (skT T a + 1) l := g.next (MN.refl.si hN) (si_at hN)
      have hmt := gN.1.mt hT
      have m14 := gN.1.2.1 14 (by decide) (by decide) (by decide)
      refine hs e N _ (skT T a + 1) (n + l.length) t dp (by omega) sN hmt ht (m14.trans h14) gN.2.1.1 (by omega) gN.wr gN.2.1.2.2 hdk gN.2.2.1 (by omega) (fun M3 hO => ⟨rfl, hO.mf.shp sN, ?_⟩)
      have hr1 := hok (skT T a + 1) (by omega)
      cases hr : s (skT T a + 1) with
      | inl w =>
        rw [hr] at hO h
        refine (hO.lft.of gN.1 (a := a0) (n := n) (s := 1) (dp := dp) (by omega) (Nat.le_refl _)).put hna (by omega) hS ht h14 (fun N2 hb => ⟨rfl, hb.1.shp hS, fun _ => out N2 (hb.1.shp hS) (h N2 hb), fun z => absurd hb.wr z⟩)
      | inr x =>
        obtain ⟨q, l'⟩ := x
        rw [hr] at hO h hr1
        obtain ⟨o1, o2, o3⟩ := hr1
        have g3 : MA t n dp M0 M3 q (l ++ l') := gN.trans hO.rgt
        have hll : (l ++ l').length = l.length + l'.length := List.length_append
        refine m_put (cc := n + (l ++ l').length) (by omega) (g3.1.shp hS) ht (by rw [g3.1.2.1 14 (by decide) (by decide) (by decide)]; exact h14) g3.2.2.1 (by omega) (fun N2 hN2 => ?_)
        have g5 := g3.put (by omega) hN2 ⟨c11, ct⟩
        rw [htr] at g5
        refine ⟨rfl, g5.1.shp hS, fun z => absurd g5.wr z, fun _ => m_look (by omega) (g5.1.shp hS) (g5.1.mt hT) g5.2.1.1 (fun M4 k4 e4 => ⟨_, rfl, k4.1.shp (g5.1.shp hS), ?_⟩)⟩
        exact ih q _ M4 (by omega) (g5.next k4 e4) (by rw [List.length_append, hll]; show a0 + (l.length + l'.length + 1) ≤ q; omega) o3 h
    by_cases c : oA (nxT T a) = true
    · have c' := c
      unfold oA at c'
      rw [Bool.or_eq_true, beq_iff_eq, beq_iff_eq] at c'
      refine vn_sum_21 (by omega) s1 ⟨fun z N hN sN => ?_, fun z => ⟨fun y => absurd (c'.resolve_left z) y, fun y N hN sN => ?_⟩⟩
      · rw [if_neg (fun y => y z)]
        exact go c 2 (by decide) (by decide) (by rw [z]; rfl) N hN sN
      · rw [if_pos z]
        exact go c 3 (by decide) (by decide) (by rw [Classical.not_not.mp y]; rfl) N hN sN
    · rw [if_neg c] at h
      refine vn_sum_21 (by omega) s1 ⟨fun z => absurd (by rw [z]; rfl) c, fun z => ⟨fun y => h M1 g, fun y => absurd (by rw [Classical.not_not.mp y]; rfl) c⟩⟩
theorem MP_sm {s : Nat → jR} (hs : MP T k D mX11_term s) (hok : okP T s) : MP T k (D + 9) mX11_sum (fun a => chB T oA s (s a)) := by
  intro kk M Q a n t dp hk hS hT ht h14 ha ha2 hw hdp hdk hn hna h
  obtain ⟨e, rfl⟩ := dd (d := kk) (by omega)
  have h240 := hT.2.1
  have h : ∀ M', MO t n a dp M M' (chB T oA s (s a)) → Q none M' := h
  refine vn_sum (by omega) hS (hs e M _ a n t dp (by omega) hS hT ht h14 ha ha2 hw hdp hdk hn hna (fun M2 hO => ⟨rfl, hO.mf.shp hS, ?_⟩))
  have s2 := hO.mf.shp hS
  have hr0 := hok a ha2
  cases hr : s a with
  | inl w =>
    rw [hr] at hO h
    exact ⟨fun _ => vn_sum_21 (by omega) s2 ⟨fun z => absurd z (by decide), fun _ => ⟨fun _ => h M2 hO, fun z => absurd (by decide) z⟩⟩, fun z => absurd hO.lft.wr z⟩
  | inr x =>
    obtain ⟨q, l⟩ := x
    rw [hr] at hO h hr0
    obtain ⟨o1, o2, o3⟩ := hr0
    have g := hO.rgt
    refine ⟨fun z => absurd g.wr z, fun _ => m_look (by omega) s2 (g.1.mt hT) g.2.1.1 (fun M3 k3 e3 => ⟨_, rfl, k3.1.shp s2, ?_⟩)⟩
    exact MP_sm_lp hs hok (by omega) hS hT ht h14 hdk hna T.2 q l M3 (by omega) (g.next k3 e3) o1 o3 h
theorem MP_smK : ∀ k : Nat, MP T k (40 * k + 40) mX11_sum (smK T k)
  | 0 => by
    have h1 : MP T 0 (0 + 12) mX11_atom (atF T none) := MP_at (fun s hs => by cases hs) (fun _ => rfl)
    have h2 := MP_tm h1 (okP_at (fun s hs => by cases hs))
    have h3 := MP_sm h2 (okP_tm (fun s hs => by cases hs))
    exact fun kk M Q a n t dp hk => h3 kk M Q a n t dp (by omega)
  | k + 1 => by
    have h0 := MP_smK k
    have h1 : MP T (k + 1) (40 * k + 40 + 12) mX11_atom (atF T (some (smK T k))) := MP_at (fun s hs => by cases hs; exact ⟨k, rfl, okP_smK k, h0⟩) (fun hs => by cases hs)
    have h2 := MP_tm h1 (okP_at (fun s hs => by cases hs; exact okP_smK k))
    have h3 := MP_sm h2 (okP_tm (fun s hs => by cases hs; exact okP_smK k))
    exact fun kk M Q a n t dp hk => h3 kk M Q a n t dp (by omega)
end MRead2
