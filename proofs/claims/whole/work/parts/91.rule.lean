/-! the law that holds: of both -/
def kW.setL (W : kW) (n : Int) : kW := ((W.1.1, W.1.2.1, W.1.2.2.1, (if n = -1 then none else some (W.lw n.toNat)), W.1.2.2.2.2), W.2.1, W.2.2.1, W.2.2.2.1, W.2.2.2.2.1, W.2.2.2.2.2.1, W.2.2.2.2.2.2.1, W.2.2.2.2.2.2.2.1, (W.lc, n), W.lw)
def wLaw (W : kW) (n : Int) : Int × kW := if n = -1 ∨ (0 ≤ n ∧ n < W.lc) then (1, W.setL n) else (0, W)
theorem okLaw {W : kW} {n : Int} (h : OKW W) : OKW (wLaw W n).2 := by
  unfold wLaw
  split
  · rename_i c
    obtain ⟨h1, h2, h3, h4, h5, h6, h7, h8, h9, h10, h11⟩ := h
    refine ⟨h1, h2, h3, h4, h5, h6, h7, h8, h9, h10, ?_⟩
    show (n = -1 ∧ (if n = -1 then none else some (W.lw n.toNat)) = none) ∨ (0 ≤ n ∧ n < W.lc ∧ (if n = -1 then none else some (W.lw n.toNat)) = some (W.lw n.toNat))
    rcases c with c | c
    · exact Or.inl ⟨c, if_pos c⟩
    · exact Or.inr ⟨c.1, c.2, if_neg (by omega)⟩
  · exact h
theorem rr29_5 {a j v : Nat} (h : R1 a j = some v) : ¬ (a = 29 ∧ j = 5) := by
  rintro ⟨rfl, rfl⟩
  exact absurd h (by rw [show R1 29 5 = none from rfl]; simp)
section RuleX
variable {d : Nat} {M : jM} {Q : Option jV → jM → Prop} {W : kW} {g : Nat} {n : Int}
/-- the class's cells when another law holds -/
def lwS (M : jM) (g : Nat) (n : Int) : jM := si (si (sr M 29 5 g) 6 5 n) 387 5 0
theorem Shp.lw (h : Shp M) : Shp (lwS M g n) := ⟨h.1, h.2.1, fun a j v q => by
  have := h.2.2 a j v q
  show (if a = 29 ∧ j = 5 then g else rv M a j) = v
  rw [if_neg (rr29_5 q)]
  exact this⟩
theorem lw_iv {r i : Nat} (h : ¬ (r = 6 ∧ i = 5) ∧ ¬ (r = 387 ∧ i = 5)) : iv (lwS M g n) r i = iv M r i := by
  unfold lwS
  rw [iv_si, if_neg h.2, iv_si, if_neg h.1]
  rfl
theorem lw_row {r : Nat} (h : r ≠ 6 ∧ r ≠ 387) : iv (lwS M g n) r = iv M r := funext (fun i => lw_iv ⟨fun z => h.1 z.1, fun z => h.2 z.1⟩)
theorem lw_at {k : Nat} (hk : 500 ≤ k) (h : LawAt M k) : LawAt (lwS M g n) k := by
  obtain ⟨h1, h2, h3, ⟨h4, h5, h6, h7, h8, h9⟩, h10⟩ := h
  have e : ∀ i, rv (lwS M g n) k i = rv M k i := fun i => by
    show (if k = 29 ∧ i = 5 then g else rv M k i) = _
    rw [if_neg (by omega)]
  exact ⟨h1, h2, h3, ⟨by rw [e]; exact h4, by rw [e]; exact h5, by rw [e]; exact h6, by rw [e]; exact h7, by rw [e]; exact h8, by rw [e]; exact h9⟩, h10⟩
theorem lw_f {k : Nat} (hk : 500 ≤ k) : lawF (lwS M g n) k = lawF M k ∧ (LawW M k → LawW (lwS M g n) k) := by
  have e : ∀ x, iv (lwS M g n) (k + x) = iv M (k + x) := fun x => lw_row ⟨by omega, by omega⟩
  have e0 := e 0
  rw [Nat.add_zero] at e0
  unfold lawF LawW
  rw [e0, e 1, e 2, e 3, e 4, e 5]
  exact ⟨rfl, fun z => z⟩
theorem lw_SB {a : Nat} {s : jS} (h : SB M a s) (ha : ∀ k, k < 7 → a + k ≠ 6 ∧ a + k ≠ 387) : SB (lwS M g n) a s := by
  intro f i hi h5
  rw [lw_row (ha f (by unfold inS at hi; omega))]
  exact h f i hi h5
theorem lw_SL {a : Nat} {s : jS} (h : SL M a s) (ha : a + 7 ≠ 6 ∧ a + 7 ≠ 387) : SL (lwS M g n) a s := by
  intro i hi
  rw [lw_row ha]
  exact h i hi
theorem CX.lw (h : CX M W) (hn : (n = -1 ∧ g = 0) ∨ (0 ≤ n ∧ n < W.lc ∧ g = rv M 27 n.toNat)) : CX (lwS M g n) (W.setL n) ∧ FX M (lwS M g n) := by
  obtain ⟨a0, a1, a2, a3, a4, a5, a6, a7, a8, a9, a10⟩ := h
  have r : ∀ x, x ≠ 6 → x ≠ 387 → iv (lwS M g n) x = iv M x := fun x h1 h2 => lw_row ⟨h1, h2⟩
  have hrv : ∀ a j, ¬ (a = 29 ∧ j = 5) → rv (lwS M g n) a j = rv M a j := fun a j z => if_neg z
  have h29 : rv (lwS M g n) 29 5 = g := by
    show (if 29 = 29 ∧ 5 = 5 then g else rv M 29 5) = g
    exact if_pos ⟨rfl, rfl⟩
  obtain ⟨l1, l2, G, l3, l4, l5, l6⟩ := a7
  refine ⟨⟨a0.lw, ?_, ?_, ?_, ?_, ?_, ?_, ?_, ?_, ?_, ?_⟩, a0.lw, fun r hr => ⟨lw_row ⟨by omega, by omega⟩, rfl, rfl⟩, Nat.le_refl _, Nat.le_add_right _ _, Nat.le_refl _, Nat.le_add_right _ _⟩
  · obtain ⟨b1, b2, b3, b4, b5, _⟩ := a1
    refine ⟨by rw [r 29 (by decide) (by decide)]; exact b1, by rw [r 29 (by decide) (by decide)]; exact b2, by rw [r 29 (by decide) (by decide)]; exact b3, fun i hi => by rw [r 30 (by decide) (by decide)]; exact b4 i hi, fun i hi => by rw [r 31 (by decide) (by decide)]; exact b5 i hi, ?_⟩
    show LawI (lwS M g n) (if n = -1 then none else some (W.lw n.toNat))
    rcases hn with ⟨z1, z2⟩ | ⟨z1, z2, z3⟩
    · rw [if_pos z1]
      show rv (lwS M g n) 29 5 = 0
      rw [h29]; exact z2
    · rw [if_neg (by omega)]
      obtain ⟨c1, c2, c3, c4, c5⟩ := l3 n.toNat (by omega)
      rw [c1] at z3
      rw [← z3] at c2 c3 c4 c5
      exact ⟨g, h29, c2, lw_at c2 c3, (lw_f c2).2 c4, by rw [(lw_f c2).1]; exact c5⟩
  · obtain ⟨b1, b2, nx, b3, b4, b5, b6, b7⟩ := a2
    refine ⟨fun z => ⟨lw_SB (b1 z).1 (fun k hk => by omega), lw_SL (b1 z).2 (by omega)⟩, by rw [r 33 (by decide) (by decide)]; exact b2, nx, b3, by rw [r 65 (by decide) (by decide)]; exact b4, by rw [r 65 (by decide) (by decide)]; exact b5, b6, fun k hk => ?_⟩
    obtain ⟨c1, c2⟩ := b7 k hk
    exact ⟨lw_SB c1 (fun k hk => by omega), lw_SL c2 (by omega)⟩
  · refine ⟨by rw [lw_iv (by omega)]; exact a3.1, fun v hv => ?_⟩
    obtain ⟨c1, c2⟩ := a3.2 v hv
    exact ⟨lw_SB c1 (fun k hk => by omega), lw_SL c2 (by omega)⟩
  · exact fun z => lw_SB (a4 z) (fun k hk => by omega)
  · obtain ⟨b1, b2, _⟩ := a5
    refine ⟨by rw [lw_iv (by omega)]; exact b1, fun k hk => ?_, Or.inl ?_⟩
    · rw [r 388 (by decide) (by decide), r 389 (by decide) (by decide), r 390 (by decide) (by decide), r 391 (by decide) (by decide)]
      exact b2 k hk
    · unfold lwS
      rw [iv_si, if_pos ⟨rfl, rfl⟩]
  · unfold TapX
    rw [r 7 (by decide) (by decide), r 8 (by decide) (by decide)]
    exact a6
  · refine ⟨by rw [lw_iv (by omega)]; exact l1, ?_, G, fun k hk => ?_, l4, fun z => ?_, fun z => ?_⟩
    · unfold lwS
      rw [iv_si, if_neg (by omega), iv_si, if_pos ⟨rfl, rfl⟩]
      rfl
    · obtain ⟨c1, c2, c3, c4, c5⟩ := l3 k hk
      exact ⟨by rw [hrv _ _ (by omega)]; exact c1, c2, lw_at c2 c3, (lw_f c2).2 c4, by rw [(lw_f c2).1]; exact c5⟩
    · have z : n = -1 := z
      rw [h29]
      rcases hn with y | y <;> omega
    · have z : n ≠ -1 := z
      rw [h29]
      rcases hn with y | ⟨y1, y2, y3⟩
      · exact absurd y.1 z
      · rw [y3]
        exact (l3 n.toNat (by omega)).1
  · unfold RefX
    rw [r 28 (by decide) (by decide)]
    exact a8
  · unfold RdrX LgtX
    rw [r 12 (by decide) (by decide), r 13 (by decide) (by decide), r 14 (by decide) (by decide), r 43 (by decide) (by decide), r 44 (by decide) (by decide), r 45 (by decide) (by decide), r 48 (by decide) (by decide)]
    exact a9
  · rw [lw_iv (by omega)]
    exact a10
theorem x_law (hd : 1 ≤ d) (hS : Shp M) (h0 : n = -1 → Q (some (vI 1)) (lwS M 0 n)) (h1 : 0 ≤ n → n < iv M 6 4 → n < 4 → Q (some (vI 1)) (lwS M (rv M 27 n.toNat) n)) (h2 : n ≠ -1 → (n < 0 ∨ iv M 6 4 ≤ n ∨ 4 ≤ n) → Q (some (vI 0)) M) : Call d mX10_law [vR 6, vI n] M Q := by
  obtain ⟨e, rfl⟩ := dd (d := d) (by omega)
  show Run (e + 1) mX10_law 0 [some (vR 6), some (vI n)] [] M Q
  have tl : ∀ g, Q (some (vI 1)) (lwS M g n) → Run (e + 1) mX10_law 55 [some (vR 6), some (vI n)] [] (sr M 29 5 g) Q := by
    intro g hq
    have s1 : Shp (sr M 29 5 g) := (Shp.lw (g := g) (n := n) hS)
    have s2 : Shp (si (sr M 29 5 g) 6 5 n) := s1
    refine r_aload_n dX10_law_55 rfl ?_
    refine r_iload_n dX10_law_56 rfl ?_
    refine r_put0 dX10_law_57 kF10_36 (sh_o s1 kk6 (by decide)) (Or.inl rfl) ?_
    refine r_aload_n dX10_law_60 rfl ?_
    refine r_getS (v := 387) dX10_law_61 kF10_80 (sh_o s2 kk6 (by decide)) (sh_f s2 rr6_16 (by decide)) ?_
    refine r_iconst dX10_law_64 (by decide) ?_
    refine r_put3 dX10_law_65 kF10_161 (sh_o s2 kk387 (by decide)) (Or.inl rfl) (by decide) ?_
    refine r_iconst dX10_law_68 (by decide) ?_
    exact r_zret dX10_law_69 rfl (by decide) hq
  have no : (n ≠ -1 → (n < 0 ∨ iv M 6 4 ≤ n ∨ 4 ≤ n) → Q (some (vI 0)) M) → n ≠ -1 → (n < 0 ∨ iv M 6 4 ≤ n ∨ 4 ≤ n) → Run (e + 1) mX10_law 53 [some (vR 6), some (vI n)] [] M Q := by
    intro hq z1 z2
    refine r_iconst dX10_law_53 (by decide) ?_
    exact r_zret dX10_law_54 rfl (by decide) (hq z1 z2)
  refine r_iload_n dX10_law_0 rfl ?_
  refine r_iconst dX10_law_1 (by decide) ?_
  refine r_icmp_ne dX10_law_2 rfl (fun c => ?_) (fun c => ?_)
  · refine r_iload_n dX10_law_16 rfl ?_
    refine r_if_lt dX10_law_17 rfl (fun c2 => no h2 c (Or.inl c2)) (fun c2 => ?_)
    refine r_iload_n dX10_law_20 rfl ?_
    refine r_aload_n dX10_law_21 rfl ?_
    refine r_get0 dX10_law_22 kF10_124 (sh_o hS kk6 (by decide)) ?_
    refine r_icmp_ge dX10_law_25 rfl (fun c3 => no h2 c (Or.inr (Or.inl c3))) (fun c3 => ?_)
    refine r_iload_n dX10_law_28 rfl ?_
    refine r_aload_n dX10_law_29 rfl ?_
    refine r_getS (v := 27) dX10_law_30 kF10_32 (sh_o hS kk6 (by decide)) (sh_f hS rr6_3 (by decide)) ?_
    refine r_lenS dX10_law_33 (sh_r hS kk27 (by decide)) (by decide) ?_
    refine r_icmp_ge dX10_law_34 rfl (fun c4 => no h2 c (Or.inr (Or.inr c4))) (fun c4 => ?_)
    refine r_aload_n dX10_law_37 rfl ?_
    refine r_getS (v := 29) dX10_law_38 kF10_50 (sh_o hS kk6 (by decide)) (sh_f hS rr6_9 (by decide)) ?_
    refine r_aload_n dX10_law_41 rfl ?_
    refine r_getS (v := 27) dX10_law_42 kF10_32 (sh_o hS kk6 (by decide)) (sh_f hS rr6_3 (by decide)) ?_
    refine r_iload_n dX10_law_45 rfl ?_
    have c4 : ¬ (4 : Int) ≤ n := c4
    refine r_aaload dX10_law_46 (Or.inr (jro_ix (sh_r hS kk27 (by decide)) ⟨by omega, by omega⟩)) ?_
    refine r_put2 dX10_law_47 kF10_158 (sh_o hS kk29 (by decide)) (Or.inl rfl) ?_
    refine r_goto (tgt := 55) dX10_law_50 rfl ?_
    exact tl _ (h1 (by omega) (by omega) (by omega))
  · refine r_aload_n dX10_law_5 rfl ?_
    refine r_getS (v := 29) dX10_law_6 kF10_50 (sh_o hS kk6 (by decide)) (sh_f hS rr6_9 (by decide)) ?_
    refine r_null dX10_law_9 ?_
    refine r_put2 dX10_law_10 kF10_158 (sh_o hS kk29 (by decide)) (Or.inl rfl) ?_
    refine r_goto (tgt := 55) dX10_law_13 rfl ?_
    exact tl _ (h0 (Classical.not_not.mp c))
theorem X_law (hd : 1 ≤ d) (hX : CX M W) (hok : OKW W) (h : ∀ M', FX M M' → CX M' (wLaw W n).2 → Q (some (vI (wLaw W n).1)) M') : Call d mX10_law [vR 6, vI n] M Q := by
  have hS := hX.shp
  have h4 : iv M 6 4 = (W.lc : Int) := hX.2.2.2.2.2.2.2.1.1
  have hlc := hok.2.2.2.2.2.2.2.2.2.1
  refine x_law hd hS (fun z => ?_) (fun z1 z2 z3 => ?_) (fun z1 z2 => ?_)
  · unfold wLaw at h
    rw [if_pos (Or.inl z)] at h
    have := hX.lw (g := 0) (n := n) (Or.inl ⟨z, rfl⟩)
    exact h _ this.2 this.1
  · unfold wLaw at h
    rw [if_pos (Or.inr (by omega))] at h
    have := hX.lw (g := rv M 27 n.toNat) (n := n) (Or.inr ⟨z1, by omega, rfl⟩)
    exact h _ this.2 this.1
  · unfold wLaw at h
    rw [if_neg (by omega)] at h
    exact h M (FX.refl hS) hX
theorem M_law (hd : 8 ≤ d) (hM : CM M W) (hok : OKW W) (h : ∀ M', FM M M' → CM M' (wLaw W n).2 → Q (some (vI (wLaw W n).1)) M') : Call d mX11_law [vR 468, vI n] M Q := by
  obtain ⟨e, rfl⟩ := dd (d := d) (by omega)
  have hS := hM.shp
  have hl := hM.2.2.2.2.2.2.2.1
  have hlc := hok.2.2.2.2.2.2.2.2.2.1
  have e13 : iv M 468 13 = (W.lc : Int) := hl.1
  unfold wLaw at h
  refine vn_law (by omega) hS ?_
  rw [e13, w32_i (by omega) (by omega), fIn_n]
  refine ⟨fun c N hN sN => ?_, fun c => ?_⟩
  · rw [if_pos (by omega)] at h
    have ei : ∀ r i, ¬ (r = 468 ∧ i = 30) → iv N r i = iv M r i := fun r i z => by rw [hN, iv_si, if_neg z]
    have er : ∀ r, r ≠ 468 → iv N r = iv M r := fun r z => funext (fun i => ei r i (by omega))
    have e30 : iv N 468 30 = n := by rw [hN, iv_si, if_pos ⟨rfl, rfl⟩]
    have hLaw : ∀ k, (MLawW M k → MLawW N k) ∧ mlF N k = mlF M k := by
      intro k
      unfold MLawW mlF mSg mVl mRow
      rw [er 470 (by decide), er 471 (by decide), er 473 (by decide), er 474 (by decide), er 475 (by decide), er 476 (by decide)]
      exact ⟨fun z => z, rfl⟩
    obtain ⟨a0, a1, a2, a3, a4, a5, a6, a7, a8, a9⟩ := hM
    refine h N (by rw [hN]; exact fr_si (by omega)) ⟨sN, ?_, ?_, ?_, ?_, ?_, ?_, ?_, ?_, ?_⟩
    · obtain ⟨b1, b2, b3, b4, _⟩ := a1
      refine ⟨by rw [ei _ _ (by omega)]; exact b1, fun p hp => by rw [er 483 (by decide)]; exact b2 p hp, by rw [er 482 (by decide)]; exact b3, by rw [er 482 (by decide)]; exact b4, ?_⟩
      show LawIM N (if n = -1 then none else some (W.lw n.toNat))
      by_cases z : n = -1
      · rw [if_pos z]
        show iv N 468 30 = -1
        rw [e30]; exact z
      · rw [if_neg z]
        obtain ⟨c1, c2⟩ := a7.2.2 n.toNat (by omega)
        exact ⟨n.toNat, by rw [e30]; omega, by omega, (hLaw _).1 c1, fun l hl => by rw [(hLaw _).2]; exact c2 l hl⟩
    · unfold NowM PM at a2 ⊢
      rw [er 486 (by decide), er 488 (by decide), ei 468 33 (by omega)]
      exact a2
    · unfold PicM at a3 ⊢
      rw [er 498 (by decide), ei 468 46 (by omega)]
      exact a3
    · unfold TolM TM at a4 ⊢
      rw [er 484 (by decide), er 483 (by decide), er 482 (by decide), ei 468 26 (by omega)]
      exact a4
    · unfold RidM at a5 ⊢
      rw [er 492 (by decide), er 493 (by decide), er 494 (by decide), er 495 (by decide), ei 468 42 (by omega)]
      exact a5
    · unfold TapM at a6 ⊢
      rw [er 469 (by decide), ei 468 2 (by omega)]
      exact a6
    · refine ⟨by rw [ei 468 13 (by omega)]; exact a7.1, e30, fun k hk => ?_⟩
      obtain ⟨c1, c2⟩ := a7.2.2 k hk
      exact ⟨(hLaw _).1 c1, fun l hl => by rw [(hLaw _).2]; exact c2 l hl⟩
    · unfold RefM at a8 ⊢
      rw [er 487 (by decide)]
      exact a8
    · rw [ei 468 31 (by omega)]
      exact a9
  · rw [if_neg (by omega)] at h
    exact h M Fr.refl hM
end RuleX
