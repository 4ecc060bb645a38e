/-! THE RIDDLE: of the model, tried and asked -/
def T7 (r : Nat) : Prop := r = 477 ∨ r = 478 ∨ r = 486 ∨ r = 489 ∨ r = 496 ∨ r = 497
section RiddleM
theorem ixm8 {i j : Nat} (hi : i < 1000) (hj : j < 1000) : w32 (w32 (8 * (i : Int)) + (j : Int)) = ((8 * i + j : Nat) : Int) := by
  rw [w32_i (z := 8 * (i : Int)) (by omega) (by omega), w32_i (by omega) (by omega)]
  omega
theorem ixm64 {i j : Nat} (hi : i < 1000) (hj : j < 1000) : w32 (w32 (64 * (i : Int)) + (j : Int)) = ((64 * i + j : Nat) : Int) := by
  rw [w32_i (z := 64 * (i : Int)) (by omega) (by omega), w32_i (by omega) (by omega)]
  omega
theorem ixm64b {i b : Nat} {v : Int} (hi : i < 1000) (hb : b < 1000) (hv : v = w32 (w32 (64 * (i : Int)) + ((b : Int) + 1))) : w32 (v - 1) = ((64 * i + b : Nat) : Int) := by
  rw [w32_i (z := 64 * (i : Int)) (by omega) (by omega), w32_i (by omega) (by omega)] at hv
  rw [w32_i (by omega) (by omega)]
  omega
variable {d : Nat} {M : jM} {Q : Option jV → jM → Prop} {W : kW}
theorem CM.t7 {M' : jM} (h : CM M W) (hf : Fr T7 M M') (h6 : iv M' 486 = iv M 486) : CM M' W ∧ FM M M' := by
  have f4 : F4 T7 (fun _ => False) M M' := F4.of hf (by unfold T7; omega)
  refine ⟨h.act f4 (fun r hr => by unfold T7 at hr; unfold Ya; omega) (fun j z => z.elim) ?_ ?_ rfl rfl rfl rfl rfl rfl, hf.mono (fun r hr => by unfold T7 at hr; omega)⟩
  · have := h.now
    unfold NowM PM at this ⊢
    rw [h6, hf.eiv (r := 468) (by unfold T7; omega), hf.eiv (r := 488) (by unfold T7; omega)]
    exact this
  · have := h.rfu
    unfold RefM at this ⊢
    rw [hf.eiv (r := 487) (by unfold T7; omega)]
    exact this
theorem m_isCode {c : Nat} (hd : 10 ≤ d) (hM : CM M W) (hok : OKW W) (hc : c < 10000) (hy : codeOk W.I c → Q (some (vI 1)) M) (hn : ¬ codeOk W.I c → Q (some (vI 0)) M) : Call d mX11_isCode [vR 468, vI (c : Int)] M Q := by
  obtain ⟨e, rfl⟩ := dd (d := d) (by omega)
  have hn8 := hok.wi.1
  obtain ⟨j1, j2, j3, j4⟩ := cd_j (c := c) hc
  refine vn_isCode (by omega) hM.shp ?_
  rw [j1, j2, j3, j4, hM.np, w32np hn8]
  refine ⟨fun z => ?_, fun z => ⟨fun y => ?_, fun y => ⟨fun x => ?_, fun x => ⟨⟨by omega, ?_⟩, fun v hv => ?_⟩⟩⟩⟩
  · rw [i01] at z
    exact hn (fun y => z ⟨fIn_1.mpr ⟨by omega, by have := y.1; omega⟩, fIn_1.mpr ⟨by omega, by have := y.2.1; omega⟩, by have := y.2.2.1; omega⟩)
  · exact hn (fun q => by have := q.2.2.2.1; omega)
  · exact hn (fun q => by have := q.2.2.2.2.1; omega)
  · rw [i01, Classical.not_not, fIn_1, fIn_1] at z
    omega
  · rw [i01, Classical.not_not, fIn_1, fIn_1] at z
    have hp : cdP c < W.I.np := by omega
    have e3 : (3 * ((cdP c : Nat) : Int) + 2).toNat = 3 * cdP c + 2 := by omega
    rw [e3, (hM.im.2.1 (cdP c) hp).2, fG_m (hok.wi.2.2.1 (cdP c) (by omega)) ⟨by omega, by omega⟩] at hv
    rw [hv]
    rcases fG_01 (mi := W.I.mi (cdP c)) (k := ((cdK c : Nat) : Int)) with w | w
    · rw [w, if_pos rfl]
      exact hn (fun q => by have := q.2.2.2.2.2; rw [w] at this; exact absurd this (by decide))
    · rw [w, if_neg (by decide)]
      exact hy ⟨hp, by omega, by omega, by omega, by omega, w⟩
theorem m_layTrail {c : Nat} (hd : 18 ≤ d) (hM : CM M W) (hok : OKW W) (hc : codeOk W.I c) (hy : fE (W.t 1) (cdP c) ≠ -1 → ∀ M', Fr T7 M M' → iv M' 486 = iv M 486 → iv M' 497 = iv M 497 → (∀ u p, u < 9 → p < W.I.np → lg M' 496 (8 * u + p) = trW W.I W.t c u p) → Q (some (vI 1)) M') (hn : fE (W.t 1) (cdP c) = -1 → ∀ M', Fr T7 M M' → iv M' 486 = iv M 486 → iv M' 497 = iv M 497 → Q (some (vI 0)) M') : Call d mX11_layTrail [vR 468, vI (c : Int)] M Q := by
  obtain ⟨e, rfl⟩ := dd (d := d) (by omega)
  have hS := hM.shp
  have hI := hok.wi
  have hn8 := hI.1
  obtain ⟨c1, c2, c3, c4, c5, c6⟩ := hc
  have hc8 : c < 8000 := by unfold cdP at c1; omega
  have hT9 : cdT c ≤ 9 := by unfold cdT; omega
  obtain ⟨g1, g2⟩ := hok.gt (by omega)
  obtain ⟨j1, j2, j3, j4⟩ := cd_j (c := c) (by omega)
  obtain ⟨n, hn12, h26, hth, ht1, ht6, ht7, ht9⟩ := hM.2.2.2.2.1 (by omega)
  refine vn_layTrail (by omega) hS (m_aside0 (by omega) hS (fun M0 f0 hput => ⟨rfl, f0.shp hS, ?_⟩))
  have s0 := f0.shp hS
  have A0 : IM M0 W.I := hM.im.fr f0 (by intro r hr; omega)
  have e0 : ∀ r, r ≠ 489 → iv M0 r = iv M r := fun r hr => f0.eiv hr
  refine m_layTold (n := W.I.np) (c := n) (by omega) s0 hn8 A0.1 (by rw [e0 468 (by omega)]; exact h26) (by rw [e0 484 (by omega), e0 483 (by omega), e0 482 (by omega)]; exact ⟨hn12, hth⟩) (fun M1 f1 r1 => ⟨rfl, f1.shp s0, ?_⟩)
  rw [e0 484 (by omega), e0 483 (by omega), e0 482 (by omega)] at r1
  have s1 := f1.shp s0
  -- as told, but for the coins
  have h8 : ∀ f i, ¬ (f = 0 ∧ i = 8) → (pSet W.t 0 8 0) f i = W.t f i := by
    intro f i hf
    unfold pSet
    rw [if_neg (by omega)]
  have r2 : MR M1 W.I.np (pSet W.t 0 8 0) := by
    refine MRf.sc (MR_f.mp r1) (fun j hj => ?_) (fun p hp => ?_) ?_ ?_ ?_
    · obtain ⟨q1, q2⟩ := ht1 j hj
      rw [h8 1 j (by omega), h8 2 j (by omega), h8 3 j (by omega), h8 4 j (by omega)]
      refine ⟨q1, fun z => ?_⟩
      obtain ⟨q3, q4, q5⟩ := q2 (by rw [q1]; exact z)
      exact ⟨q3, q4, by rw [q5, tlF_4]⟩
    · rw [h8 6 p (by omega), ht6 p hp, tlF_o (Or.inr (by decide))]
      unfold tl0
      simp
    · rw [h8 0 7 (by omega), ht7, tlF_o (Or.inl rfl)]
      unfold tl0
      simp
    · rw [tlF_o (Or.inl rfl)]
      unfold tl0 pSet
      simp
    · rw [h8 0 9 (by omega), ht9, tlF_o (Or.inl rfl)]
      unfold tl0
      simp
  have e1 : (pSet W.t 0 8 0) 1 = W.t 1 := funext (fun i => h8 1 i (by omega))
  have gw : WS W.I.np (pSet W.t 0 8 0) := by
    obtain ⟨q1, q2, q3, q4, q5, q6⟩ := g1.1
    unfold WS
    rw [e1, show (pSet W.t 0 8 0) 2 = W.t 2 from funext (fun i => h8 2 i (by omega)), show (pSet W.t 0 8 0) 3 = W.t 3 from funext (fun i => h8 3 i (by omega)), show (pSet W.t 0 8 0) 4 = W.t 4 from funext (fun i => h8 4 i (by omega)), show (pSet W.t 0 8 0) 6 = W.t 6 from funext (fun i => h8 6 i (by omega)), h8 0 7 (by omega), h8 0 9 (by omega)]
    exact ⟨q1, q2, q3, q4, by unfold pSet; simp, q6⟩
  have back : ∀ M1 M2, Fr (fun r => r = 477 ∨ r = 478 ∨ r = 486 ∨ r = 496) M0 M1 → (∀ i, 171 ≤ i → iv M1 486 i = iv M0 486 i) → Fr (fun r => r = 486) M1 M2 → (∀ x, iv M2 486 x = if x < 171 then iv M1 489 (171 * 0 + x) else iv M1 486 x) → Fr T7 M M2 ∧ iv M2 486 = iv M 486 ∧ iv M2 497 = iv M 497 ∧ lg M2 496 = lg M1 496 := by
    intro M1 M2 f1 k1 f2 k2
    refine ⟨((f0.mono (by intro r hr; unfold T7; omega)).trans (f1.mono (by intro r hr; unfold T7; omega))).trans (f2.mono (by intro r hr; unfold T7; omega)), ?_, ?_, f2.elg (by omega)⟩
    · funext x
      rw [k2]
      by_cases c : x < 171
      · rw [if_pos c, f1.eiv (by omega), show 171 * 0 + x = x by omega]; exact hput x c
      · rw [if_neg c, k1 x (by omega), e0 486 (by omega)]
    · rw [f2.eiv (by omega), f1.eiv (by omega), e0 497 (by omega)]
  rw [j1, j2, j3, j4]
  refine m_emptyIn (by omega) s1 r2 (by omega) ⟨_, rfl, s1, fun z => ?_, fun z => ?_⟩
  · rw [e1] at z ⊢
    have z' : fE (W.t 1) (cdP c) = -1 := by
      by_cases y : fE (W.t 1) (cdP c) = -1
      · exact y
      · rw [if_neg y] at z; exact absurd z (by decide)
    refine vn_layTrail_61 (by omega) s1 ⟨fun y => absurd y (by decide), fun _ => ⟨fun _ => m_takeBack (k := 0) (by omega) s1 (by decide) (fun M2 f2 k2 => ⟨rfl, f2.shp s1, ?_⟩), fun y => absurd z y⟩⟩
    rw [z', if_pos rfl]
    obtain ⟨b1, b2, b3, _⟩ := back M1 M2 (f1.1.mono (by intro r hr; omega)) f1.2 f2 k2
    exact ⟨Or.inl rfl, hn z' M2 b1 b2 b3⟩
  · rw [e1] at z
    have z' : fE (W.t 1) (cdP c) ≠ -1 := fun y => z (if_pos y)
    rw [e1, if_neg z']
    refine m_putThought (by omega) s1 r2 hn8 (by omega) (by rw [e1]; exact z') (by omega) (fun M2 f2 r2' => ⟨rfl, f2.shp s1, ?_⟩)
    have r3 : MR M2 W.I.np (moS (pSet W.t 0 8 0) c) := r2'
    have f02 := f1.trans f2
    have hEn := fE_in (W.t 1) (cdP c)
    have hJ : moJ (pSet W.t 0 8 0) c < 4 * W.I.np := by
      have := (moJ_4 (t := pSet W.t 0 8 0) (c := c) (by rw [e1]; exact z')).2
      omega
    have gm : WS W.I.np (moS (pSet W.t 0 8 0) c) := gw.lay hJ ⟨by omega, by omega⟩ ⟨by omega, by omega⟩ ⟨by omega, by omega⟩
    have g9 : moS (pSet W.t 0 8 0) c 0 9 = 0 := by rw [moS_o (Or.inr (Or.inl rfl)), h8 0 9 (by omega)]; exact g2
    have hws : ∀ u, u ≤ 9 → WS W.I.np (tqS W.I (moS (pSet W.t 0 8 0) c) u) := fun u hu => tqS_ws gm g9 (by omega)
    refine up_to (R := fun u => ∀ M3 l4, Fr (fun r => r = 477 ∨ r = 478 ∨ r = 486 ∨ r = 496) M0 M3 → (∀ i, 171 ≤ i → iv M3 486 i = iv M0 486 i) → MR M3 W.I.np (tqS W.I (moS (pSet W.t 0 8 0) c) u) → (∀ u' p, u' < u → p < W.I.np → lg M3 496 (8 * u' + p) = trW W.I W.t c u' p) → Run (e + 1) mX11_layTrail 61 [some (vR 468), some (vI (c : Int)), some (vI 1), some (vI (u : Int)), l4] [] M3 Q) 9 ?_ ?_ M2 none (f02.1.mono (by intro r hr; omega)) f02.2 r3 (fun u' p hu => absurd hu (Nat.not_lt_zero _))
    · intro M3 l4 f3 k3 r3 t3
      have s3 := f3.shp s0
      refine vn_layTrail_61 (by omega) s3 ⟨fun _ => m_takeBack (k := 0) (by omega) s3 (by decide) (fun M4 f4 k4 => ⟨rfl, f4.shp s3, ?_⟩), fun y => absurd (by decide) y⟩
      obtain ⟨b1, b2, b3, b4⟩ := back M3 M4 f3 k3 f4 k4
      exact ⟨Or.inr rfl, hy z' M4 b1 b2 b3 (fun u p hu hp => by rw [b4]; exact t3 u p hu hp)⟩
    · intro u hu ih M3 l4 f3 k3 r3 t3
      have s3 := f3.shp s0
      refine vn_layTrail_61 (by omega) s3 ⟨fun y => absurd y (by omega), fun _ => ⟨fun y => absurd y (by decide), fun _ => ?_⟩⟩
      refine up_to (R := fun p => ∀ M4, Fr (fun r => r = 477 ∨ r = 478 ∨ r = 486 ∨ r = 496) M0 M4 → (∀ i, 171 ≤ i → iv M4 486 i = iv M0 486 i) → MR M4 W.I.np (tqS W.I (moS (pSet W.t 0 8 0) c) u) → (∀ u' p', (u' < u ∨ (u' = u ∧ p' < p)) → p' < W.I.np → lg M4 496 (8 * u' + p') = trW W.I W.t c u' p') → Run (e + 1) mX11_layTrail 74 [some (vR 468), some (vI (c : Int)), some (vI 1), some (vI (u : Int)), some (vI (p : Int))] [] M4 Q) W.I.np ?_ ?_ M3 f3 k3 r3 (fun u' p' h1 h2 => t3 u' p' (by omega) h2)
      · intro M4 f4 k4 r4 t4
        have s4 := f4.shp s0
        have A4 : IM M4 W.I := A0.fr f4 (by intro r hr; omega)
        refine vn_layTrail_74 (by omega) s4 ⟨fun _ => m_live (by omega) s4 A4 hI r4 (hws u (by omega)) (fun M5 f5 r5 => ⟨rfl, f5.shp s4, ?_⟩), fun y => absurd (by rw [A4.1]; omega) y⟩
        rw [w32s (by omega)]
        exact ih M5 _ (f4.trans (f5.1.mono (by intro r hr; omega))) (fun i hi => (f5.2 i hi).trans (k4 i hi)) r5 (fun u' p' h1 h2 => by rw [f5.1.elg (by omega)]; exact t4 u' p' (by omega) h2)
      · intro p hp ih2 M4 f4 k4 r4 t4
        have s4 := f4.shp s0
        have A4 : IM M4 W.I := A0.fr f4 (by intro r hr; omega)
        refine vn_layTrail_74 (by omega) s4 ⟨fun y => absurd y (by rw [A4.1]; omega), fun _ => m_weightOf (by omega) s4 A4 hI r4 (hws u (by omega)) hp (fun M5 f5 => ⟨_, rfl, f5.shp s4, ?_⟩)⟩
        rw [ixm8 (by omega) (by omega), Int.toNat_natCast, w32s (by omega)]
        refine ⟨⟨by omega, by omega⟩, fun N hN sN => ?_⟩
        have gN : Fr (fun r => r = 496) M5 N := by rw [hN]; exact fr_sl rfl
        have eN : iv N 486 = iv M4 486 := by rw [gN.eiv (by omega), f5.eiv (by unfold Mp; omega)]
        refine ih2 N ((f4.trans (f5.mono (by intro r hr; unfold Mp at hr; omega))).trans (gN.mono (by intro r hr; omega))) (fun i hi => by rw [eN]; exact k4 i hi) (MR_f.mpr (by rw [eN]; exact MR_f.mp r4)) (fun u' p' h1 h2 => ?_)
        rw [hN, lg_sl2]
        by_cases y : u' = u ∧ p' = p
        · rw [y.1, y.2, if_pos ⟨rfl, rfl⟩]
          have := trW_8 (I := W.I) (c := c) (u := u) (p := p) h8
          unfold trW at this ⊢
          exact this
        · rw [if_neg (by omega), f5.elg (by unfold Mp; omega)]
          exact t4 u' p' (by omega) h2
end RiddleM
