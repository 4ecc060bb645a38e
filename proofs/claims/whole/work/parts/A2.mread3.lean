/-! THE MODEL reads: conditions -/
def okQ (T : jT) (a : Nat) (r : jR) : Prop := match r with
  | .inl _ => True
  | .inr (q, l) => a + l.length ≤ q ∧ q ≤ T.2
theorem okR.q {T : jT} {a : Nat} {r : jR} (h : okR T a r) : okQ T a r := by
  revert h
  cases r with
  | inl w => exact fun _ => trivial
  | inr x => exact fun h => ⟨h.1, h.2.2⟩
theorem okQ_ch {T : jT} {o : Int → Bool} {s : Nat → jR} {r : jR} {a : Nat} (hok : okP T s) (ho : o (-1) = false) (h : okQ T a r) : okQ T a (chB T o s r) := by
  unfold chB
  revert h
  cases r with
  | inl w => exact fun _ => trivial
  | inr x =>
    intro h
    have := lpF_ok hok ho (n := a) T.2 x.1 x.2 h.1 h.2
    dsimp only
    revert this
    cases lpF T o s T.2 x.1 x.2 with
    | inl w => exact fun _ => trivial
    | inr y => exact fun h => h
def MZ (T : jT) (k d : Nat) (me : jMe) (f : jR → jR) : Prop := ∀ (kk : Nat) (M0 M : jM) (Q : Option jV → jM → Prop) (a n t dp : Nat) (r : jR), d ≤ kk → Shp M0 → MT M0 T → t < 5 → iv M0 468 14 = (t : Int) → dp + k = 6 → n ≤ a → okQ T a r → MO t n a dp M0 M r → (∀ M', MO t n a dp M0 M' (f r) → Q none M') → Call kk me [vR 468] M Q
section MRead3
variable {T : jT} {k D : Nat} {sub : Option (Nat → jR)} {s u : Nat → jR}
theorem m_cmp {kk a n t dp q : Nat} {l : List (Int × Int)} {M0 M : jM} {Q : Option jV → jM → Prop} (hs : MP T k D mX11_sum s) (hok : okP T s) (hk : D + 9 ≤ kk) (hS : Shp M0) (hT : MT M0 T) (ht : t < 5) (h14 : iv M0 468 14 = (t : Int)) (hdk : dp + k = 6) (hna : n ≤ a) (hl : a + l.length ≤ q) (hq : q ≤ T.2) (g : MA t n dp M0 M q l) (h : ∀ M', MO t n a dp M0 M' (cmF T s (.inr (q, l))) → Q none M') : Call kk mX11_compare [vR 468] M Q := by
  obtain ⟨e, rfl⟩ := dd (d := kk) (by omega)
  have h240 := hT.2.1
  have s1 := g.1.shp hS
  have hk1 := (skT_in (T := T) q).1
  have hk2 := (skT_in (T := T) q).2 hq
  refine vn_compare (by omega) s1 ⟨fun z => absurd g.wr z, fun _ => m_look (by omega) s1 (g.1.mt hT) g.2.1.1 (fun M3 k3 e3 => ⟨_, rfl, k3.1.shp s1, fun z N hN sN => ?_, fun z N hN _ => h N ?_⟩)⟩
  · rw [fSg_0] at z
    have hlt : skT T q < T.2 := nxT_lt (fun y => by rw [y] at z; exact absurd z (by decide))
    have hv : cmF T s (.inr (q, l)) = (match s (skT T q + 1) with
      | .inl w => .inl w
      | .inr (q', l') => .inr (q', l ++ l' ++ [(nxT T q, 0)])) := if_pos z
    rw [e3, w32s (by omega)] at hN
    have gN : MA t n dp M0 N (skT T q + 1) l := (g.next k3 e3).next (MN.refl.si hN) (si_at hN)
    have m14 := gN.1.2.1 14 (by decide) (by decide) (by decide)
    refine hs e N _ (skT T q + 1) (n + l.length) t dp (by omega) sN (gN.1.mt hT) ht (m14.trans h14) gN.2.1.1 (by omega) gN.wr gN.2.1.2.2 hdk gN.2.2.1 (by omega) (fun M4 hO => ⟨rfl, hO.mf.shp sN, fun v hv30 => ?_⟩)
    have hr1 := hok (skT T q + 1) (by omega)
    cases hr : s (skT T q + 1) with
    | inl w =>
      rw [hr] at hO hv
      refine (hO.lft.of gN.1 (a := a) (n := n) (s := 1) (dp := dp) (by omega) (Nat.le_refl _)).put hna (by omega) hS ht h14 (fun N2 hb => ⟨rfl, hb.1.shp hS, h N2 ?_⟩)
      rw [hv]
      exact hb
    | inr x =>
      obtain ⟨q', l'⟩ := x
      rw [hr] at hO hv hr1
      obtain ⟨o1, o2, o3⟩ := hr1
      have g3 : MA t n dp M0 M4 q' (l ++ l') := gN.trans hO.rgt
      have hll : (l ++ l').length = l.length + l'.length := List.length_append
      have hc : 0 ≤ v ∧ v ≤ 11 ∧ trS v = nxT T q := by
        unfold fSg at z
        by_cases y : nxT T q = 61 ∨ nxT T q = 60 ∨ nxT T q = 62
        · rw [hv30]
          rcases y with y | y | y <;> rw [y] <;> decide
        · rw [if_neg y] at z; exact absurd z (by decide)
      refine m_put (cc := n + (l ++ l').length) (by omega) (g3.1.shp hS) ht (by rw [g3.1.2.1 14 (by decide) (by decide) (by decide)]; exact h14) g3.2.2.1 (by omega) (fun N2 hN2 => ?_)
      have g5 := g3.put (by omega) hN2 ⟨hc.1, hc.2.1⟩
      rw [hc.2.2] at g5
      refine ⟨rfl, g5.1.shp hS, h N2 ?_⟩
      rw [hv]
      exact g5
  · rw [fSg_0] at z
    have hv : cmF T s (.inr (q, l)) = .inl (skT T q) := if_neg z
    rw [hv]
    have := g.2.1.2.2
    exact (g.next k3 e3).bad hN (by omega) (by omega)
theorem MZ_an_lp {e n t a0 dp : Nat} {M0 : jM} {Q : Option jV → jM → Prop} (hs : MP T k D mX11_unit u) (hok : okP T u) (he : D + 8 ≤ e) (hS : Shp M0) (hT : MT M0 T) (ht : t < 5) (h14 : iv M0 468 14 = (t : Int)) (hdk : dp + k = 6) (hna : n ≤ a0) : ∀ f a l M1, T.2 - a ≤ f → MA t n dp M0 M1 a l → a0 + l.length ≤ a → a ≤ T.2 → (∀ M', MO t n a0 dp M0 M' (lpF T oN u f a l) → Q none M') → Run (e + 1) mX11_goOnAnd 0 [some (vR 468)] [] M1 Q := by
  have h240 := hT.2.1
  have out : ∀ M2, Shp M2 → iv M2 468 4 ≠ -1 → Q none M2 → Run (e + 1) mX11_goOnAnd 0 [some (vR 468)] [] M2 Q := fun M2 s2 w2 h2 => vn_goOnAnd_0 (by omega) s2 ⟨fun _ => h2, fun z => absurd w2 z⟩
  intro f
  induction f with
  | zero =>
    intro a l M1 hf g hl hat h
    obtain ⟨z1, z2⟩ := nxT_end (T := T) (a := a) (by omega)
    have s1 := g.1.shp hS
    refine vn_goOnAnd_0 (by omega) s1 ⟨fun z => absurd g.wr z, fun _ => m_look (by omega) s1 (g.1.mt hT) g.2.1.1 (fun M3 k3 e3 => ⟨_, rfl, k3.1.shp s1, fun _ => h M3 (g.next k3 e3), fun z => ?_⟩)⟩
    rw [z1] at z
    exact absurd (by decide) z
  | succ f ih =>
    intro a l M1 hf g hl hat h
    have s1 := g.1.shp hS
    have hk1 := (skT_in (T := T) a).1
    simp only [lpF] at h
    refine vn_goOnAnd_0 (by omega) s1 ⟨fun z => absurd g.wr z, fun _ => m_look (by omega) s1 (g.1.mt hT) g.2.1.1 (fun M3 k3 e3 => ⟨_, rfl, k3.1.shp s1, fun z => ?_, fun z N hN sN => ?_⟩)⟩
    · rw [if_neg (fun y => by unfold oN at y; rw [beq_iff_eq] at y; exact z y)] at h
      exact h M3 (g.next k3 e3)
    · have z := Classical.not_not.mp z
      have hlt : skT T a < T.2 := nxT_lt (by rw [z]; decide)
      rw [if_pos (by rw [z]; rfl)] at h
      rw [e3, w32s (by omega)] at hN
      have gN : MA t n dp M0 N (skT T a + 1) l := (g.next k3 e3).next (MN.refl.si hN) (si_at hN)
      have hmt := gN.1.mt hT
      have m14 := gN.1.2.1 14 (by decide) (by decide) (by decide)
      have hr1 := hok (skT T a + 1) (by omega)
      have fin : ∀ M3, MO t (n + l.length) (skT T a + 1) dp N M3 (u (skT T a + 1)) → Call e mX11_put [vR 468, vI (10 : Int), vI (0 : Int)] M3 (fun r18 M16 => r18 = none ∧ Shp M16 ∧ (Run (e + 1) mX11_goOnAnd 0 [some (vR 468)] [] M16 Q)) := by
        intro M3 hO
        cases hr : u (skT T a + 1) with
        | inl w =>
          rw [hr] at hO h
          exact (hO.lft.of gN.1 (a := a0) (n := n) (s := 1) (dp := dp) (by omega) (Nat.le_refl _)).put hna (by omega) hS ht h14 (fun N2 hb => ⟨rfl, hb.1.shp hS, out N2 (hb.1.shp hS) hb.wr (h N2 hb)⟩)
        | inr x =>
          obtain ⟨q, l'⟩ := x
          rw [hr] at hO h hr1
          obtain ⟨o1, o2, o3⟩ := hr1
          have g3 : MA t n dp M0 M3 q (l ++ l') := gN.trans hO.rgt
          have hll : (l ++ l').length = l.length + l'.length := List.length_append
          refine m_put (cc := n + (l ++ l').length) (by omega) (g3.1.shp hS) ht (by rw [g3.1.2.1 14 (by decide) (by decide) (by decide)]; exact h14) g3.2.2.1 (by omega) (fun N2 hN2 => ?_)
          have g5 := g3.put (by omega) hN2 (by decide)
          refine ⟨rfl, g5.1.shp hS, ih q _ N2 (by omega) g5 ?_ o3 (by rw [z] at h; exact h)⟩
          rw [List.length_append, hll]
          show a0 + (l.length + l'.length + 1) ≤ q
          omega
      exact hs e N _ (skT T a + 1) (n + l.length) t dp (by omega) sN hmt ht (m14.trans h14) gN.2.1.1 (by omega) gN.wr gN.2.1.2.2 hdk gN.2.2.1 (by omega) (fun M3 hO => ⟨rfl, hO.mf.shp sN, fin M3 hO⟩)
theorem MZ_an (hs : MP T k D mX11_unit u) (hok : okP T u) : MZ T k (D + 9) mX11_goOnAnd (fun r => chB T oN u r) := by
  intro kk M0 M Q a n t dp r hk hS hT ht h14 hdk hna hq g h
  obtain ⟨e, rfl⟩ := dd (d := kk) (by omega)
  have h : ∀ M', MO t n a dp M0 M' (chB T oN u r) → Q none M' := h
  show Run (e + 1) mX11_goOnAnd 0 [some (vR 468)] [] M Q
  have s1 := g.mf.shp hS
  cases r with
  | inl w => exact vn_goOnAnd_0 (by omega) s1 ⟨fun _ => h M g, fun z => absurd g.lft.wr z⟩
  | inr x =>
    obtain ⟨q, l⟩ := x
    exact MZ_an_lp hs hok (by omega) hS hT ht h14 hdk hna T.2 q l M (by omega) g.rgt hq.1 hq.2 h
theorem MZ_or_lp {e n t a0 dp : Nat} {M0 : jM} {Q : Option jV → jM → Prop} {s2 : Nat → jR} (hs2 : ∀ b, s2 b = chB T oN u (u b)) (hs : MP T k D mX11_unit u) (hu : okP T u) (ha : MZ T k D mX11_goOnAnd (fun r => chB T oN u r)) (hok : okP T s2) (he : D + 8 ≤ e) (hS : Shp M0) (hT : MT M0 T) (ht : t < 5) (h14 : iv M0 468 14 = (t : Int)) (hdk : dp + k = 6) (hna : n ≤ a0) : ∀ f a l M1, T.2 - a ≤ f → MA t n dp M0 M1 a l → a0 + l.length ≤ a → a ≤ T.2 → (∀ M', MO t n a0 dp M0 M' (lpF T oO s2 f a l) → Q none M') → Run (e + 1) mX11_goOnOr 0 [some (vR 468)] [] M1 Q := by
  have h240 := hT.2.1
  have out : ∀ M2, Shp M2 → iv M2 468 4 ≠ -1 → Q none M2 → Run (e + 1) mX11_goOnOr 0 [some (vR 468)] [] M2 Q := fun M2 s2 w2 h2 => vn_goOnOr_0 (by omega) s2 ⟨fun _ => h2, fun z => absurd w2 z⟩
  intro f
  induction f with
  | zero =>
    intro a l M1 hf g hl hat h
    obtain ⟨z1, z2⟩ := nxT_end (T := T) (a := a) (by omega)
    have s1 := g.1.shp hS
    refine vn_goOnOr_0 (by omega) s1 ⟨fun z => absurd g.wr z, fun _ => m_look (by omega) s1 (g.1.mt hT) g.2.1.1 (fun M3 k3 e3 => ⟨_, rfl, k3.1.shp s1, fun _ => h M3 (g.next k3 e3), fun z => ?_⟩)⟩
    rw [z1] at z
    exact absurd (by decide) z
  | succ f ih =>
    intro a l M1 hf g hl hat h
    have s1 := g.1.shp hS
    have hk1 := (skT_in (T := T) a).1
    simp only [lpF] at h
    refine vn_goOnOr_0 (by omega) s1 ⟨fun z => absurd g.wr z, fun _ => m_look (by omega) s1 (g.1.mt hT) g.2.1.1 (fun M3 k3 e3 => ⟨_, rfl, k3.1.shp s1, fun z => ?_, fun z N hN sN => ?_⟩)⟩
    · rw [if_neg (fun y => by unfold oO at y; rw [beq_iff_eq] at y; exact z y)] at h
      exact h M3 (g.next k3 e3)
    · have z := Classical.not_not.mp z
      have hlt : skT T a < T.2 := nxT_lt (by rw [z]; decide)
      rw [if_pos (by rw [z]; rfl)] at h
      rw [e3, w32s (by omega)] at hN
      have gN : MA t n dp M0 N (skT T a + 1) l := (g.next k3 e3).next (MN.refl.si hN) (si_at hN)
      have hmt := gN.1.mt hT
      have m14 := gN.1.2.1 14 (by decide) (by decide) (by decide)
      have hr1 := hok (skT T a + 1) (by omega)
      have fin : ∀ M3, MO t (n + l.length) (skT T a + 1) dp N M3 (s2 (skT T a + 1)) → Call e mX11_put [vR 468, vI (11 : Int), vI (0 : Int)] M3 (fun r18 M16 => r18 = none ∧ Shp M16 ∧ (Run (e + 1) mX11_goOnOr 0 [some (vR 468)] [] M16 Q)) := by
        intro M3 hO
        cases hr : s2 (skT T a + 1) with
        | inl w =>
          rw [hr] at hO h
          exact (hO.lft.of gN.1 (a := a0) (n := n) (s := 1) (dp := dp) (by omega) (Nat.le_refl _)).put hna (by omega) hS ht h14 (fun N2 hb => ⟨rfl, hb.1.shp hS, out N2 (hb.1.shp hS) hb.wr (h N2 hb)⟩)
        | inr x =>
          obtain ⟨q, l'⟩ := x
          rw [hr] at hO h hr1
          obtain ⟨o1, o2, o3⟩ := hr1
          have g3 : MA t n dp M0 M3 q (l ++ l') := gN.trans hO.rgt
          have hll : (l ++ l').length = l.length + l'.length := List.length_append
          refine m_put (cc := n + (l ++ l').length) (by omega) (g3.1.shp hS) ht (by rw [g3.1.2.1 14 (by decide) (by decide) (by decide)]; exact h14) g3.2.2.1 (by omega) (fun N2 hN2 => ?_)
          have g5 := g3.put (by omega) hN2 (by decide)
          refine ⟨rfl, g5.1.shp hS, ih q _ N2 (by omega) g5 ?_ o3 (by rw [z] at h; exact h)⟩
          rw [List.length_append, hll]
          show a0 + (l.length + l'.length + 1) ≤ q
          omega
      refine hs e N _ (skT T a + 1) (n + l.length) t dp (by omega) sN hmt ht (m14.trans h14) gN.2.1.1 (by omega) gN.wr gN.2.1.2.2 hdk gN.2.2.1 (by omega) (fun M3 hO => ⟨rfl, hO.mf.shp sN, ?_⟩)
      exact ha e N M3 _ (skT T a + 1) (n + l.length) t dp (u (skT T a + 1)) (by omega) sN hmt ht (m14.trans h14) hdk (by omega) (hu (skT T a + 1) (by omega)).q hO (fun M4 hO4 => ⟨rfl, hO4.mf.shp sN, fin M4 (by rw [hs2]; exact hO4)⟩)
theorem MZ_or {s2 : Nat → jR} (hs2 : ∀ b, s2 b = chB T oN u (u b)) (hs : MP T k D mX11_unit u) (hu : okP T u) (ha : MZ T k D mX11_goOnAnd (fun r => chB T oN u r)) (hok : okP T s2) : MZ T k (D + 9) mX11_goOnOr (fun r => chB T oO s2 r) := by
  intro kk M0 M Q a n t dp r hk hS hT ht h14 hdk hna hq g h
  obtain ⟨e, rfl⟩ := dd (d := kk) (by omega)
  have h : ∀ M', MO t n a dp M0 M' (chB T oO s2 r) → Q none M' := h
  show Run (e + 1) mX11_goOnOr 0 [some (vR 468)] [] M Q
  have s1 := g.mf.shp hS
  cases r with
  | inl w => exact vn_goOnOr_0 (by omega) s1 ⟨fun _ => h M g, fun z => absurd g.lft.wr z⟩
  | inr x =>
    obtain ⟨q, l⟩ := x
    exact MZ_or_lp hs2 hs hu ha hok (by omega) hS hT ht h14 hdk hna T.2 q l M (by omega) g.rgt hq.1 hq.2 h
theorem MP_cd (hs : MP T k D mX11_unit u) (hok : okP T u) : MP T k (D + 20) mX11_condition (fun b => cdF T u (u b)) := by
  have h1 := MZ_an hs hok
  have h2 := MZ_or (D := D + 9) (s2 := fun b => chB T oN u (u b)) (fun _ => rfl) (fun kk M Q a n t dp hk => hs kk M Q a n t dp (by omega)) hok h1 (fun b hb => okR_ch hok rfl (hok b hb))
  intro kk M Q a n t dp hk hS hT ht h14 ha ha2 hw hdp hdk hn hna h
  obtain ⟨e, rfl⟩ := dd (d := kk) (by omega)
  have h : ∀ M', MO t n a dp M M' (cdF T u (u a)) → Q none M' := h
  have ok1 := (hok a ha2).q
  refine vn_condition (by omega) hS (hs e M _ a n t dp (by omega) hS hT ht h14 ha ha2 hw hdp hdk hn hna (fun M2 hO => ⟨rfl, hO.mf.shp hS, ?_⟩))
  refine h1 e M M2 _ a n t dp (u a) (by omega) hS hT ht h14 hdk hna ok1 hO (fun M3 hO3 => ⟨rfl, hO3.mf.shp hS, ?_⟩)
  exact h2 e M M3 _ a n t dp (chB T oN u (u a)) (by omega) hS hT ht h14 hdk hna (okQ_ch hok rfl ok1) hO3 (fun M4 hO4 => ⟨rfl, hO4.mf.shp hS, h M4 hO4⟩)
theorem MP_un (hskip : ∀ a, s (skT T a) = s a) (hs : MP T k D mX11_sum s) (hok : okP T s) (hsub : ∀ u, sub = some u → ∃ k', k = k' + 1 ∧ okP T u ∧ MP T k' D mX11_unit u ∧ MP T k' D mX11_condition (fun b => cdF T u (u b))) (hnone : sub = none → k = 0) : MP T k (D + 12) mX11_unit (unF T s sub) := by
  intro kk M Q a n t dp hk hS hT ht h14 ha ha2 hw hdp hdk hn hna h
  obtain ⟨e, rfl⟩ := dd (d := kk) (by omega)
  have hk1 := (skT_in (T := T) a).1
  have hk2 := (skT_in (T := T) a).2 ha2
  have h240 := hT.2.1
  have g0 : MA t n dp M M a [] := MA.start ha hw hdp hn
  have opn : ∀ M2, MN M M2 → iv M2 468 3 = ((skT T a : Nat) : Int) → (nxT T a = 33 ∨ nxT T a = 40) → ∀ (K : jM → Prop), (∀ u N k', sub = some u → k = k' + 1 → okP T u → MP T k' D mX11_unit u → MP T k' D mX11_condition (fun b => cdF T u (u b)) → MA t n (dp + 1) M N (skT T a + 1) [] → Shp N → K N) → Call e mX11_opens [vR 468] M2 (fun r22 M20 => r22 = none ∧ Shp M20 ∧ ((((iv M20 468 4) ≠ (-1 : Int)) → (Q none M20)) ∧ (¬ ((iv M20 468 4) ≠ (-1 : Int)) → K M20))) := by
    intro M2 k2 e2 h3 K hK
    have hl : skT T a < T.2 := nxT_lt (by rcases h3 with z | z <;> rw [z] <;> decide)
    have s2 := k2.1.shp hS
    have g2 := g0.next k2 e2
    refine m_opens (by omega) s2 e2 g2.2.1.2.2 (by omega) (by omega) (fun d6 N kN n3 n4 n5 => ⟨rfl, kN.1.shp s2, fun z => absurd (n4.trans g2.wr) z, fun _ => ?_⟩) (fun d6 N1 N hN1 kN n3 n4 n5 => ⟨rfl, kN.1.shp (by rw [hN1]; exact s2), fun _ => ?_, fun z => ?_⟩)
    · cases hs : sub with
      | none => exact absurd (hnone hs) (by omega)
      | some u =>
        obtain ⟨k', kk', u1, u2, u3⟩ := hsub u hs
        exact hK u N k' hs kk' u1 u2 u3 (g2.step kN n3 (n4.trans g2.wr) n5) (kN.1.shp s2)
    · have hs : sub = none := by
        cases hs : sub with
        | none => rfl
        | some u => obtain ⟨k', kk', _⟩ := hsub u hs; omega
      have hv : unF T s sub a = .inl (skT T a) := by
        rw [hs]
        unfold unF
        rcases h3 with z | z
        · rw [if_pos z]
        · rw [if_neg (by rw [z]; decide), if_pos z]
      refine h N ?_
      rw [hv]
      obtain ⟨b1, b2, cc, p, dq, q1, q2, q3, q4, q5, q6⟩ := g2.bad (a := a) (s := 0) hN1 (by show a + 0 + 0 ≤ _; omega) (by omega)
      have e1 : iv N1 468 3 = ((skT T a : Nat) : Int) := by rw [si_ne hN1 (by decide)]; exact e2
      have e5 : iv N1 468 5 = (dp : Int) := by rw [si_ne hN1 (by decide)]; exact g2.2.1.2.2
      exact ⟨b1.trans kN.mf, n4.trans b2, cc, p + 1, dp + 1, by rw [kN.1.eiv (by decide)]; exact q1, by rw [n3]; omega, n5, by omega, by omega, by omega⟩
    · rw [n4, si_at hN1, g2.wr, if_pos rfl, e2] at z
      omega
  refine vn_unit (by omega) hS (m_look (by omega) hS hT ha (fun M2 k2 e2 => ⟨_, rfl, k2.1.shp hS, fun c1 => ⟨fun c2 => ?_, fun c2 => opn M2 k2 e2 (Or.inr (Classical.not_not.mp c2)) _ (fun u N k' hsu hkk hu u1 u2 gN sN => ?_)⟩, fun c1 => opn M2 k2 e2 (Or.inl (Classical.not_not.mp c1)) _ (fun u N k' hsu hkk hu u1 u2 gN sN => ?_)⟩))
  · have hv : unF T s sub a = cmF T s (s a) := by
      unfold unF
      rw [if_neg c1, if_neg c2]
    have s2 := k2.1.shp hS
    have g2 := g0.next k2 e2
    refine hs e M2 _ (skT T a) n t dp (by omega) s2 (g2.1.mt hT) ht (by rw [g2.1.2.1 14 (by decide) (by decide) (by decide)]; exact h14) e2 hk2 g2.wr g2.2.1.2.2 hdk g2.2.2.1 (by omega) (fun M3 hO => ⟨rfl, hO.mf.shp s2, ?_⟩)
    have ok1 := hok a ha2
    rw [hskip a] at hO
    cases hr : s a with
    | inl w =>
      rw [hr] at hO hv
      refine ⟨fun _ => h M3 ?_, fun z => absurd hO.lft.wr z⟩
      rw [hv]
      exact hO.lft.of g2.1 (by omega) (Nat.le_refl _)
    | inr x =>
      obtain ⟨q, l⟩ := x
      rw [hr] at hO hv ok1
      obtain ⟨o1, o2, o3⟩ := ok1
      have g3 : MA t n dp M M3 q l := g2.trans hO.rgt
      refine ⟨fun z => absurd g3.wr z, fun _ => m_cmp hs hok (by omega) hS hT ht h14 hdk hna o1 o3 g3 (fun M4 hO4 => ⟨rfl, hO4.mf.shp hS, h M4 ?_⟩)⟩
      rw [hv]
      exact hO4
  · have c2 := Classical.not_not.mp c2
    have hl : skT T a < T.2 := nxT_lt (by rw [c2]; decide)
    rw [hsu] at h
    have hv : unF T s (some u) a = (match cdF T u (u (skT T a + 1)) with
      | .inl w => .inl w
      | .inr (q, l) => if nxT T q = 41 then .inr (skT T q + 1, l) else .inl (skT T q)) := by
      unfold unF
      rw [if_neg c1, if_pos c2]
      rfl
    refine u2 e N _ (skT T a + 1) n t (dp + 1) (by omega) sN (gN.1.mt hT) ht (by rw [gN.1.2.1 14 (by decide) (by decide) (by decide)]; exact h14) gN.2.1.1 (by omega) gN.wr gN.2.1.2.2 (by omega) gN.2.2.1 (by omega) (fun M3 hO => ⟨rfl, hO.mf.shp sN, ?_⟩)
    have hO : MO t n (skT T a + 1) (dp + 1) N M3 (cdF T u (u (skT T a + 1))) := hO
    have hok2 := okR_cd hu (hu (skT T a + 1) (by omega))
    cases hr : cdF T u (u (skT T a + 1)) with
    | inl w =>
      rw [hr] at hO hv
      refine m_closesB (by omega) hS (hO.lft.of gN.1 (a := a) (n := n) (s := 0) (dp := dp + 1) (by omega) (Nat.le_refl _)) (fun N2 hb => ⟨rfl, hb.1.shp hS, h N2 ?_⟩)
      rw [hv]
      exact hb
    | inr x =>
      obtain ⟨q, l⟩ := x
      rw [hr] at hO hv hok2
      obtain ⟨o1, o2, o3⟩ := hok2
      have g3 : MA t n (dp + 1) M M3 q l := gN.trans hO.rgt
      refine m_closesA (a := a) (by omega) hS hT g3 (by omega) o3 (by omega) (fun z N2 hb => ⟨rfl, hb.1.shp hS, h N2 ?_⟩) (fun z N2 hb => ⟨rfl, hb.1.shp hS, h N2 ?_⟩)
      · rw [hv]
        dsimp only
        rw [if_pos z]
        exact hb
      · rw [hv]
        dsimp only
        rw [if_neg z]
        exact hb
  · have c1 := Classical.not_not.mp c1
    have hl : skT T a < T.2 := nxT_lt (by rw [c1]; decide)
    rw [hsu] at h
    have hv : unF T s (some u) a = (match u (skT T a + 1) with
      | .inl w => .inl w
      | .inr (q, l) => .inr (q, l ++ [(33, 0)])) := by
      unfold unF
      rw [if_pos c1]
      rfl
    refine u1 e N _ (skT T a + 1) n t (dp + 1) (by omega) sN (gN.1.mt hT) ht (by rw [gN.1.2.1 14 (by decide) (by decide) (by decide)]; exact h14) gN.2.1.1 (by omega) gN.wr gN.2.1.2.2 (by omega) gN.2.2.1 (by omega) (fun M3 hO => ⟨rfl, hO.mf.shp sN, ?_⟩)
    have hok2 := hu (skT T a + 1) (by omega)
    cases hr : u (skT T a + 1) with
    | inl w =>
      rw [hr] at hO hv
      refine (hO.lft.of gN.1 (a := a) (n := n) (s := 1) (dp := dp + 1) (by omega) (Nat.le_refl _)).put hna (by omega) hS ht h14 (fun N2 hb => ⟨rfl, hb.1.shp hS, fun N3 hN3 s3 => h N3 ?_⟩)
      rw [hv]
      obtain ⟨b1, b2, cc, p, dq, q1, q2, q3, q4, q5, q6⟩ := hb
      rw [q3, w32_i (by omega) (by omega)] at hN3
      have kk := M5.refl.si hN3 (Or.inr (Or.inr rfl))
      exact ⟨b1.trans kk.mf, by rw [si_ne hN3 (by decide)]; exact b2, cc, p, dq - 1, by rw [kk.1.eiv (by decide)]; exact q1, by rw [si_ne hN3 (by decide)]; exact q2, by rw [si_at hN3]; omega, by omega, by omega, by omega⟩
    | inr x =>
      obtain ⟨q, l⟩ := x
      rw [hr] at hO hv hok2
      obtain ⟨o1, o2, o3⟩ := hok2
      have g3 : MA t n (dp + 1) M M3 q l := gN.trans hO.rgt
      refine m_put (cc := n + l.length) (by omega) (g3.1.shp hS) ht (by rw [g3.1.2.1 14 (by decide) (by decide) (by decide)]; exact h14) g3.2.2.1 (by omega) (fun N2 hN2 => ?_)
      have g5 := g3.put (by omega) hN2 (by decide)
      refine ⟨rfl, g5.1.shp hS, fun N3 hN3 s3 => h N3 ?_⟩
      rw [hv]
      rw [g5.2.1.2.2, w32_i (by omega) (by omega)] at hN3
      have kk := M5.refl.si hN3 (Or.inr (Or.inr rfl))
      exact g5.step kk (by rw [si_ne hN3 (by decide)]; exact g5.2.1.1) (by rw [si_ne hN3 (by decide)]; exact g5.wr) (by rw [si_at hN3]; omega)
theorem MP_unK : ∀ k : Nat, MP T k (90 * k + 60) mX11_unit (unK T k) ∧ MP T k (90 * k + 80) mX11_condition (fun b => cdF T (unK T k) (unK T k b))
  | 0 => by
    have h0 := MP_smK (T := T) 0
    have h1 : MP T 0 (40 * 0 + 40 + 12) mX11_unit (unF T (smK T 0) none) := MP_un (fun a => smK_sk) h0 (okP_smK 0) (fun u hu => by cases hu) (fun _ => rfl)
    have h2 := MP_cd h1 (okP_unK (T := T) 0)
    exact ⟨fun kk M Q a n t dp hk => h1 kk M Q a n t dp (by omega), fun kk M Q a n t dp hk => h2 kk M Q a n t dp (by omega)⟩
  | k + 1 => by
    obtain ⟨u1, u2⟩ := MP_unK k
    have h0 : MP T (k + 1) (90 * k + 80) mX11_sum (smK T (k + 1)) := fun kk M Q a n t dp hk => MP_smK (T := T) (k + 1) kk M Q a n t dp (by omega)
    have h1 : MP T (k + 1) (90 * k + 80 + 12) mX11_unit (unF T (smK T (k + 1)) (some (unK T k))) := MP_un (fun a => smK_sk) h0 (okP_smK (k + 1)) (fun u hu => by cases hu; exact ⟨k, rfl, okP_unK k, fun kk M Q a n t dp hk => u1 kk M Q a n t dp (by omega), u2⟩) (fun hu => by cases hu)
    have h2 := MP_cd h1 (okP_unK (T := T) (k + 1))
    exact ⟨fun kk M Q a n t dp hk => h1 kk M Q a n t dp (by omega), fun kk M Q a n t dp hk => h2 kk M Q a n t dp (by omega)⟩
end MRead3
