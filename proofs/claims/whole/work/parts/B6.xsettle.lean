/-! AN ISLAND told: the class settles it -/
def sE (s : jS) : jS := fun f i => if f = 1 then -1 else s f i
def tS (Y : jY) (M : jM) : jS := fun f i => if f = 6 ∧ i < 8 then iv M 12 i else if f = 0 ∧ i = 7 then Y.rl 0 else if f = 0 ∧ i = 8 then Y.rl 3 else if f = 0 ∧ i = 9 then 0 else tlF (thY Y) Y.nt (sE (fun f i => iv M (41 + f) i)) f i
section XSettle
variable {d : Nat} {M M' : jM} {Q : Option jV → jM → Prop} {W : kW} {Y : jY}
theorem IB.cg (h : IB M Y) (e : ∀ r, 9 ≤ r → r ≤ 18 → iv M' r = iv M r) : IB M' Y := by
  unfold IB at h ⊢
  rw [e 9 (by omega) (by omega), e 11 (by omega) (by omega), e 12 (by omega) (by omega), e 13 (by omega) (by omega), e 14 (by omega) (by omega), e 15 (by omega) (by omega), e 16 (by omega) (by omega), e 17 (by omega) (by omega), e 18 (by omega) (by omega)]
  exact h
theorem tS_14 {f i : Nat} (h1 : 1 ≤ f) (h2 : f ≤ 5) : tS Y M f i = tlF (thY Y) Y.nt (sE (fun f i => iv M (41 + f) i)) f i := by
  unfold tS
  rw [if_neg (by omega), if_neg (by omega), if_neg (by omega), if_neg (by omega)]
theorem tS_7 {i : Nat} : tS Y M 7 i = iv M 48 i := by
  unfold tS
  rw [if_neg (by omega), if_neg (by omega), if_neg (by omega), if_neg (by omega), tlF_o (Or.inr (by omega))]
  rfl
theorem tS_6 {i : Nat} (h : i < 8) : tS Y M 6 i = iv M 12 i := if_pos ⟨rfl, h⟩
theorem tS_07 : tS Y M 0 7 = Y.rl 0 := rfl
theorem tS_08 : tS Y M 0 8 = Y.rl 3 := rfl
theorem tS_09 : tS Y M 0 9 = 0 := rfl
theorem tS_GS (hY : okYr Y) (ok : okY Y) (hB : IB M Y) (hR : RdrX M) (hL : LgtX M) : GS Y.np (tS Y M) := by
  have hr := tl_rng hY ok (s := sE (fun f i => iv M (41 + f) i)) (fun i => rfl) (fun i hi => by
    obtain ⟨g1, g2, g3, g4⟩ := hL.2 i hi
    exact ⟨g1.1, g1.2, g2.1, g2.2, g3, g4⟩) Y.nt (Nat.le_refl _)
  have r0 : 0 ≤ Y.rl 0 ∧ Y.rl 0 ≤ 9 := hY.1 0 (by decide)
  have r3 : 0 ≤ Y.rl 3 ∧ Y.rl 3 ≤ 99 := hY.1 3 (by decide)
  refine ⟨⟨fun i hi => ?_, fun i hi h4 => ?_, fun i hi => ?_, ?_, ?_, ?_⟩, fun p hp => ?_, ?_, fun i hi => ?_⟩
  · rw [tS_14 (by decide) (by decide), tS_14 (by decide) (by decide), tS_14 (by decide) (by decide), tS_14 (by decide) (by decide)]
    exact (hr i hi).1
  · rw [tS_14 (by decide) (by decide)]
    exact (hr i hi).2 h4
  · rw [tS_6 hi]
    have := hR i hi
    omega
  · rw [tS_07]; exact r0
  · rw [tS_08]; omega
  · rw [tS_09]; omega
  · have := hY.2.2.2.1
    rw [tS_6 (by omega), (hB.2.2.2.2.1 p hp).1]
    have b : 1 ≤ Y.pr p 0 ∧ Y.pr p 0 ≤ 99 := hY.2.1 p hp 0 (by decide)
    exact b.1
  · rw [tS_09]; omega
  · rw [tS_7, hL.1 i hi]; omega
theorem c_settleT (hd : 9 ≤ d) (hS : Shp M) (hB : IB M Y) (hY : okYr Y) (ok : okY Y) (h : ∀ M', Fr (fun r => 41 ≤ r ∧ r < 48) M M' → SA M' 41 (tS Y M) → Q none M') : Call d mX7_settle [vR 41, vR 9] M Q := by
  obtain ⟨e, rfl⟩ := dd (d := d) (by omega)
  refine vj_settle (by omega) hS ?_
  refine up_to (R := fun i => ∀ M1, Fr (fun r => r = 42) M M1 → (∀ j, j < i → iv M1 42 j = -1) → Run (e + 1) mX7_settle 2 [some (vR 41), some (vR 9), some (vI (i : Int)), none] [] M1 Q) 32 ?_ ?_ M Fr.refl (fun j hj => absurd hj (Nat.not_lt_zero _))
  · intro M1 f1 h1
    refine vj_settle_2 (by omega) (f1.shp hS) ⟨fun _ => ?_, fun z => absurd (by decide) z⟩
    have sa1 : SA M1 41 (tlF (thY Y) 0 (sE (fun f i => iv M (41 + f) i))) := by
      intro f i hi
      show iv M1 (41 + f) i = if f = 1 then -1 else iv M (41 + f) i
      by_cases c : f = 1
      · rw [if_pos c, c]
        exact h1 i (by unfold inS at hi; omega)
      · rw [if_neg c, f1.eiv (by omega)]
    refine up_to (R := fun k => ∀ (M2 : jM) (l3 : Option jV), Fr (fun r => 41 ≤ r ∧ r < 48) M M2 → SA M2 41 (tlF (thY Y) k (sE (fun f i => iv M (41 + f) i))) → Run (e + 1) mX7_settle 25 [some (vR 41), some (vR 9), some (vI (k : Int)), l3] [] M2 Q) Y.nt ?_ ?_ M1 none (f1.mono (by intro r hr; omega)) sa1
    · intro M2 l3 f2 sa2
      have b2 : IB M2 Y := hB.cg (fun r h1 h2 => f2.eiv (by omega))
      refine vj_settle_25 (by omega) (f2.shp hS) ⟨fun _ N1 g1 _ N2 g2 _ N3 g3 _ N4 g4 _ => ?_, fun z => absurd (by rw [b2.2.2.1]; omega) z⟩
      have e11 : ∀ i, i < 4 → iv N1 11 i = Y.rl i := fun i hi => by rw [g1, iv_cpr, if_neg (by omega)]; exact b2.2.2.2.1 i hi
      have a0 : atv N1 4 11 (0 : Int) = Y.rl 0 := (atv_n (M := N1) (r := 11) (i := 0) (by decide)).trans (e11 0 (by decide))
      rw [a0] at g2
      have a3 : atv N2 4 11 (3 : Int) = Y.rl 3 := (atv_n (M := N2) (r := 11) (i := 3) (by decide)).trans (by rw [g2, iv_si, if_neg (by omega)]; exact e11 3 (by decide))
      rw [a3] at g3
      have fN : Fr (fun r => r = 41 ∨ r = 47) M2 N4 := by
        rw [g4, g3, g2, g1]
        exact (((fr_cpr (P := fun r => r = 41 ∨ r = 47) (Or.inr rfl)).ps (Or.inl rfl)).ps (Or.inl rfl)).ps (Or.inl rfl)
      refine h N4 (f2.trans (fN.mono (by intro r hr; omega))) (fun f i hi => ?_)
      unfold inS at hi
      rcases hi with ⟨z1, z2, z3⟩ | ⟨z1, z2⟩ | ⟨z1, z2, z3⟩
      · rw [tS_14 z1 z2, fN.eiv (by omega)]
        exact sa2 f i (Or.inl ⟨z1, z2, z3⟩)
      · rw [z1, tS_6 z2, g4, iv_si, if_neg (by omega), g3, iv_si, if_neg (by omega), g2, iv_si, if_neg (by omega), g1, iv_cpr, if_pos ⟨rfl, z2⟩, f2.eiv (by omega)]
      · rw [z1, g4, iv_si]
        by_cases c9 : i = 9
        · rw [if_pos ⟨rfl, c9⟩, c9, tS_09]
        · rw [if_neg (by omega), g3, iv_si]
          by_cases c8 : i = 8
          · rw [if_pos ⟨rfl, c8⟩, c8, tS_08]
          · rw [if_neg (by omega), g2, iv_si, if_pos ⟨rfl, by omega⟩, show i = 7 by omega, tS_07]
    · intro k hk ih M2 l3 f2 sa2
      have s2 := f2.shp hS
      have b2 : IB M2 Y := hB.cg (fun r h1 h2 => f2.eiv (by omega))
      have hk12 : k < 12 := by have := hY.2.2.2.2; omega
      obtain ⟨q1, q2, q3, q4⟩ := b2.2.2.2.2.2 k hk
      obtain ⟨f1', f2', f3'⟩ := fE_ah hY ok (s := sE (fun f i => iv M (41 + f) i)) (fun i => rfl) hk
      have o0 := hY.2.2.1 k hk 0 (by decide)
      have w0 : 0 ≤ Y.th k 0 ∧ Y.th k 0 ≤ 7 := o0
      clear o0
      obtain ⟨p, hp⟩ : ∃ p : Nat, Y.th k 0 = (p : Int) := ⟨(Y.th k 0).toNat, by omega⟩
      obtain ⟨a, ha⟩ : ∃ a : Nat, ahF (fun i => Y.th i 0) (Y.th k 0) k = (a : Int) := ⟨(ahF (fun i => Y.th i 0) (Y.th k 0) k).toNat, by omega⟩
      refine vj_settle_25 (by omega) s2 ⟨fun z => absurd z (by rw [b2.2.2.1]; omega), fun _ => c_ahead (v := fun j => Y.th j 0) (by omega) s2 hk12 (fun j hj => (b2.2.2.2.2.2 j (by omega)).1) ⟨_, rfl, s2, ?_⟩⟩
      rw [atv_n hk12, atv_n hk12, atv_n hk12, atv_n hk12, q1, q2, q3, q4, ha, hp]
      refine t_layIn (by omega) s2 (by decide) sa2 (by omega) (by omega) (fun M3 f3 sa3 => ⟨rfl, f3.shp s2, ?_⟩)
      rw [w32s (by omega)]
      refine ih M3 _ (f2.trans (f3.mono (by intro r hr; unfold Sp at hr; omega))) ?_
      have ee : tlF (thY Y) (k + 1) (sE (fun f i => iv M (41 + f) i)) = pLay (tlF (thY Y) k (sE (fun f i => iv M (41 + f) i))) (4 * p + a) (Y.th k 1) (Y.th k 2) (Y.th k 3) := by
        simp only [tlF]
        rw [thY_0, f1', ha, hp, Int.toNat_natCast, Int.toNat_natCast, thY_at (c := 1) (by decide), thY_at (c := 2) (by decide), thY_at (c := 3) (by decide)]
      rw [ee]
      exact sa3
  · intro i hi ih M1 f1 h1
    refine vj_settle_2 (by omega) (f1.shp hS) ⟨fun z => absurd z (by omega), fun _ N hN _ => ?_⟩
    rw [w32s (by omega)]
    refine ih N (by rw [hN]; exact f1.pv rfl) (fun j hj => ?_)
    rw [hN, iv_ptv]
    by_cases c : j = i
    · rw [if_pos ⟨rfl, by omega, by omega⟩]
    · rw [if_neg (by omega)]; exact h1 j (by omega)
theorem X_settle (hd : 12 ≤ d) (hX : CX M W) (hok : OKW W) (hB : IB M Y) (hY : okYr Y) (ok : okY Y) (h : ∀ W' M', Txt Y W W' → FX M M' → CX M' W' → Q (some (vI (Y.np : Int))) M') : Call d mX10_settle [vR 6] M Q := by
  obtain ⟨e, rfl⟩ := dd (d := d) (by omega)
  obtain ⟨e, rfl⟩ : ∃ e', e = e' + 1 := ⟨e - 1, by omega⟩
  have hS := hX.shp
  obtain ⟨a0, ⟨i1, i2, i3, i4, i5, i6⟩, ⟨x1, x2, x3⟩, a3, a4, ⟨r1, r2, r3⟩, ⟨t1, t2⟩, ⟨l1, l2, G, l3, l4, l5, l7⟩, a8, ⟨a9, a9'⟩, a10⟩ := hX
  refine vx_settle (by omega) hS (fun N1 h1 s1 => vi_settle (by omega) s1 ?_)
  have f1 : Fr (fun r => r = 7) M N1 := by rw [h1]; exact fr_si rfl
  obtain ⟨N2, h2⟩ : ∃ N2, N2 = cpr (cpr (si (si (si N1 29 0 (iv N1 9 3)) 29 1 (atv (si N1 29 0 (iv N1 9 3)) 4 11 (1 : Int))) 29 2 (atv (si (si N1 29 0 (iv N1 9 3)) 29 1 (atv (si N1 29 0 (iv N1 9 3)) 4 11 (1 : Int))) 4 11 (2 : Int))) 13 30 8) 14 31 8 := ⟨_, rfl⟩
  rw [← h2]
  have f2 : Fr (fun r => 29 ≤ r ∧ r ≤ 31) N1 N2 := by
    rw [h2]
    exact ((((fr_si (P := fun r => 29 ≤ r ∧ r ≤ 31) (by omega)).ps (by omega)).ps (by omega)).pc (by omega)).pc (by omega)
  have s2 := f2.shp s1
  have b1 : IB N1 Y := hB.cg (fun r h1 h2 => f1.eiv (by omega))
  have b2 : IB N2 Y := b1.cg (fun r h1 h2 => f2.eiv (by omega))
  have e11 : ∀ i, i < 4 → iv N1 11 i = Y.rl i := b1.2.2.2.1
  have k1 : atv (si N1 29 0 (iv N1 9 3)) 4 11 (1 : Int) = Y.rl 1 := (atv_n (r := 11) (i := 1) (by decide)).trans (by rw [iv_si, if_neg (by omega)]; exact e11 1 (by decide))
  rw [k1, b1.2.1] at h2
  have k2 : atv (si (si N1 29 0 (Y.np : Int)) 29 1 (Y.rl 1)) 4 11 (2 : Int) = Y.rl 2 := (atv_n (r := 11) (i := 2) (by decide)).trans (by rw [iv_si, if_neg (by omega), iv_si, if_neg (by omega)]; exact e11 2 (by decide))
  rw [k2] at h2
  have v29 : iv N2 29 0 = (Y.np : Int) ∧ iv N2 29 1 = Y.rl 1 ∧ iv N2 29 2 = Y.rl 2 := by
    refine ⟨?_, ?_, ?_⟩
    · rw [h2, iv_cpr, if_neg (by omega), iv_cpr, if_neg (by omega), iv_si, if_neg (by omega), iv_si, if_neg (by omega), iv_si, if_pos ⟨rfl, rfl⟩]
    · rw [h2, iv_cpr, if_neg (by omega), iv_cpr, if_neg (by omega), iv_si, if_neg (by omega), iv_si, if_pos ⟨rfl, rfl⟩]
    · rw [h2, iv_cpr, if_neg (by omega), iv_cpr, if_neg (by omega), iv_si, if_pos ⟨rfl, rfl⟩]
  have v30 : ∀ i, i < 8 → iv N2 30 i = iv M 13 i := fun i hi => by
    rw [h2, iv_cpr, if_neg (by omega), iv_cpr, if_pos ⟨rfl, hi⟩, iv_si, if_neg (by omega), iv_si, if_neg (by omega), iv_si, if_neg (by omega), f1.eiv (by omega)]
  have v31 : ∀ i, i < 8 → iv N2 31 i = iv M 14 i := fun i hi => by
    rw [h2, iv_cpr, if_pos ⟨rfl, hi⟩, iv_cpr, if_neg (by omega), iv_si, if_neg (by omega), iv_si, if_neg (by omega), iv_si, if_neg (by omega), f1.eiv (by omega)]
  clear h2
  have f12 : Fr (fun r => r = 7 ∨ (29 ≤ r ∧ r ≤ 31)) M N2 := (f1.mono (by intro r hr; omega)).trans (f2.mono (by intro r hr; omega))
  have hR2 : RdrX N2 := a9.cg (f12.eiv (by omega)) (f12.eiv (by omega)) (f12.eiv (by omega))
  have hL2 : LgtX N2 := by unfold LgtX at a9' ⊢; rw [f12.eiv (by omega), f12.eiv (by omega), f12.eiv (by omega), f12.eiv (by omega)]; exact a9'
  refine ⟨rfl, s2, c_settleT (by omega) s2 b2 hY ok (fun M3 f3 sa3 => ⟨rfl, f3.shp s2, ?_⟩)⟩
  have s3 := f3.shp s2
  have gs := tS_GS hY ok b2 hR2 hL2
  have sl3 : SL M3 41 (tS Y N2) := fun i hi => by rw [f3.eiv (by omega), tS_7]
  refine t_copyAll (a := 33) (b := 41) (by omega) s3 (by decide) (by decide) (by decide) sa3 sl3 (fun M4 f4 sa4 sl4 => ⟨rfl, f4.shp s3, ?_⟩)
  have s4 := f4.shp s3
  refine vp_clear (by omega) s4 (fun N5 h5 s5 => ⟨rfl, s5, vr_clear (by omega) s5 (fun N6 h6 s6 N7 h7 s7 => ⟨rfl, s7, fun N8 h8 s8 => ?_⟩)⟩)
  have f8 : Fr (fun r => r = 6 ∨ r = 65 ∨ r = 387) M4 N8 := by
    rw [h8, h7, h6, h5]
    exact (((fr_si (P := fun r => r = 6 ∨ r = 65 ∨ r = 387) (by omega)).ps (by omega)).ps (by omega)).ps (by omega)
  have f34 : Fr (fun r => 33 ≤ r ∧ r < 48) N2 M4 := (f3.mono (by intro r hr; omega)).trans (f4.mono (by intro r hr; omega))
  have fA : Fr (fun r => r = 6 ∨ r = 7 ∨ (29 ≤ r ∧ r ≤ 31) ∨ (33 ≤ r ∧ r < 48) ∨ r = 65 ∨ r = 387) M N8 := (f12.mono (by intro r hr; omega)).trans ((f34.mono (by intro r hr; omega)).trans (f8.mono (by intro r hr; omega)))
  have eA : ∀ r, ¬ (r = 6 ∨ r = 7 ∨ (29 ≤ r ∧ r ≤ 31) ∨ (33 ≤ r ∧ r < 48) ∨ r = 65 ∨ r = 387) → iv N8 r = iv M r := fun r hr => fA.eiv hr
  have e8 : ∀ r, ¬ (r = 6 ∨ r = 65 ∨ r = 387) → iv N8 r = iv M4 r := fun r hr => f8.eiv hr
  have e6 : ∀ i, i ≠ 14 → iv N8 6 i = iv M 6 i := fun i hi => by
    rw [h8, iv_si, if_neg (by omega), h7, iv_si, if_neg (by omega), h6, iv_si, if_neg (by omega), h5, iv_si, if_neg (by omega), f34.eiv (by omega), f12.eiv (by omega)]
  have e65 : iv N8 65 1 = iv M 65 1 ∧ iv N8 65 2 = 0 := by
    refine ⟨?_, ?_⟩
    · rw [h8, iv_si, if_neg (by omega), h7, iv_si, if_neg (by omega), h6, iv_si, if_neg (by omega), h5, iv_si, if_neg (by omega), f34.eiv (by omega), f12.eiv (by omega)]
    · rw [h8, iv_si, if_neg (by omega), h7, iv_si, if_neg (by omega), h6, iv_si, if_neg (by omega), h5, iv_si, if_pos ⟨rfl, rfl⟩]
  have e387 : iv N8 387 4 = 0 ∧ iv N8 387 5 = 0 := by
    refine ⟨?_, ?_⟩
    · rw [h8, iv_si, if_neg (by omega), h7, iv_si, if_neg (by omega), h6, iv_si, if_pos ⟨rfl, rfl⟩]
    · rw [h8, iv_si, if_neg (by omega), h7, iv_si, if_pos ⟨rfl, rfl⟩]
  have e614 : iv N8 6 14 = 0 := by rw [h8, iv_si, if_pos ⟨rfl, rfl⟩]
  have e29 : ∀ r, 29 ≤ r → r ≤ 31 → iv N8 r = iv N2 r := fun r h1 h2 => by rw [e8 r (by omega), f34.eiv (by omega)]
  rw [e29 29 (by omega) (by omega), v29.1]
  have sa8 : SA N8 33 (tS Y N2) := sa4.fr f8 (fun k hk => by omega)
  have sb8 : SA N8 41 (tS Y N2) := (sa3.fr f4 (fun k hk => by omega)).fr f8 (fun k hk => by omega)
  have sl8 : SL N8 33 (tS Y N2) := sl4.fr f8 (by omega)
  obtain ⟨nx, c1, c2, c3, c4, c5⟩ := x3
  refine h ((Y.np, iv N2 13, iv N2 14, W.I.lw, Y.rl 1, Y.rl 2), (tS Y N2, 0, W.P), tS Y N2, none, (0, W.nt), (0, W.tb), W.rf, W.me, (W.lc, W.lh), W.lw) N8 ⟨_, _, _, rfl, fun p hp => ?_, fun p hp => ?_, gs, tS_07, tS_08, tS_09, fun j hj => ⟨?_, fun hj1 => ?_⟩⟩ (FX.of fA hS (fun r hr => by omega)) ⟨fA.shp a0, ?_, ?_, ?_, ?_, ?_, ?_, ?_, ?_, ⟨?_, ?_⟩, ?_⟩
  · have := hR2 p hp
    omega
  · have hp8 := hY.2.2.2.1
    obtain ⟨w1, w2, w3⟩ := b2.2.2.2.2.1 p hp
    exact ⟨w2, w3, by rw [tS_6 (by omega)]; exact w1⟩
  · rw [tS_14 (by decide) (by decide)]
    exact congrFun (tlF_1 (s := sE (fun f i => iv N2 (41 + f) i)) (s' := tl0 (fun _ => 0) 0) rfl Y.nt) j
  · rw [tS_14 (by decide) (by decide)] at hj1
    have := tlF_p (s := sE (fun f i => iv N2 (41 + f) i)) (s' := tl0 (fun _ => 0) 0) rfl (fun i => rfl) Y.nt j hj1
    rw [tS_14 (by decide) (by decide), tS_14 (by decide) (by decide), tS_14 (by decide) (by decide)]
    exact ⟨this.1, this.2.1, by rw [this.2.2]; exact tlF_4 _⟩
  · refine ⟨by rw [e29 29 (by omega) (by omega)]; exact v29.1, by rw [e29 29 (by omega) (by omega)]; exact v29.2.1, by rw [e29 29 (by omega) (by omega)]; exact v29.2.2, fun i hi => ?_, fun i hi => ?_, ?_⟩
    · rw [e29 30 (by omega) (by omega), v30 i hi]
      show _ = iv N2 13 i
      rw [f12.eiv (by omega)]
    · rw [e29 31 (by omega) (by omega), v31 i hi]
      show _ = iv N2 14 i
      rw [f12.eiv (by omega)]
    · show LawI N8 W.I.lw
      unfold LawI at i6 ⊢
      split
      · rename_i hl; rw [hl] at i6; rw [fA.erv]; exact i6
      · rename_i F hl
        rw [hl] at i6
        obtain ⟨g, q1, q2, q3, q4, q5⟩ := i6
        obtain ⟨u1, u2⟩ := lawF_fr (g := g) fA (fun k hk => by omega)
        exact ⟨g, by rw [fA.erv]; exact q1, q2, fA.law q3, u2 q4, by rw [u1]; exact q5⟩
  · exact ⟨fun _ => ⟨fun f i hi _ => sa8 f i hi, sl8⟩, sa8 0 9 (Or.inr (Or.inr ⟨rfl, by decide, by decide⟩)), nx, c1, e65.1.trans c2, e65.2, Nat.zero_le _, fun k hk => absurd hk (Nat.not_lt_zero _)⟩
  · exact ⟨e614, fun u hu => absurd (show (none : Option jS) = some u from hu) (by simp)⟩
  · exact fun _ f i hi _ => sb8 f i hi
  · exact ⟨e387.1, fun k hk => absurd hk (Nat.not_lt_zero _), Or.inl e387.2⟩
  · refine ⟨?_, fun i hi => absurd hi (Nat.not_lt_zero _)⟩
    rw [e8 7 (by omega), f34.eiv (by omega), f2.eiv (by omega), h1, iv_si, if_pos ⟨rfl, rfl⟩]
    rfl
  · unfold LawX
    rw [fA.erv]
    refine ⟨by rw [e6 4 (by decide)]; exact l1, by rw [e6 5 (by decide)]; exact l2, G, fun k hk => ?_, l4, l5, l7⟩
    obtain ⟨z1, z2, z3, z4, z5⟩ := l3 k hk
    obtain ⟨y1, y2⟩ := lawF_fr (g := G k) fA (fun k hk => by omega)
    exact ⟨z1, z2, fA.law z3, y2 z4, by rw [y1]; exact z5⟩
  · unfold RefX at a8 ⊢; rw [eA 28 (by omega)]; exact a8
  · exact a9.cg (eA 12 (by omega)) (eA 13 (by omega)) (eA 14 (by omega))
  · refine ⟨fun i hi => by rw [eA 48 (by omega)]; exact a9'.1 i hi, fun i hi => ?_⟩
    have g := gs.1.1 i hi
    have q := fun f (h1 : 1 ≤ f) (h2 : f ≤ 5) => sb8 f i (Or.inl ⟨h1, h2, hi⟩)
    rw [show iv N8 43 i = _ from q 2 (by decide) (by decide), show iv N8 44 i = _ from q 3 (by decide) (by decide), show iv N8 45 i = _ from q 4 (by decide) (by decide)]
    omega
  · rw [e6 6 (by decide)]; exact a10
end XSettle
