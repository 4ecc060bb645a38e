/-! THE CLASS's acts over the world -/
/-- cells of acts -/
def Ac (M : jM) (r : Nat) : Prop := (33 ≤ r ∧ r ≤ 40) ∨ (65 ≤ r ∧ r ≤ 386) ∨ r = 6 ∨ Wp M r
theorem Ac_a {M : jM} {r : Nat} (h : Ac M r) : Xa M r := by unfold Ac Wp at h; unfold Xa Wp; omega
section XActs
variable {d : Nat} {M : jM} {Q : Option jV → jM → Prop} {W : kW}
theorem CX.setA {M' : jM} {a : jA} (h : CX M W) (hok : OKW W) (hf : Fr (Ac M) M M') (h6 : iv M' 6 = iv M 6) (h1 : SB M' 33 a.1) (h2 : SL M' 33 a.1) (h3 : PA M' a.2.1 a.2.2) : CX M' (W.setA a) ∧ FX M M' := by
  refine ⟨h.act hok hf (fun r hr => Ac_a hr) h6 ⟨fun _ => ⟨h1, h2⟩, h1.w0 (i := 9) ⟨by omega, by omega⟩, h3⟩ ?_ rfl rfl rfl rfl rfl rfl, FX.obs hf h.shp (fun r hr => Ac_a hr)⟩
  have := h.rfu
  unfold RefX at this ⊢
  rw [hf.eiv (r := 28) (by unfold Ac Wp; omega)]
  exact this
/-- an act that changes the state now, its keeping being done -/
theorem x_kept {s' : jS} (hd : 5 ≤ d) (hX : CX M W) (hn : 0 < W.I.np) (h : ∀ M', Fr (fun r => 65 ≤ r ∧ r ≤ 386) M M' → SB M' 33 W.s → SL M' 33 W.s → PA M' (shK W.K) (shP W.s W.P) → Q none M') : Call d mX5_keep [vR 65, vR 33] M Q := by
  obtain ⟨n1, n2, n3⟩ := hX.now
  obtain ⟨b1, b2⟩ := n1 hn
  exact x_keep hd hX.shp b1 b2 n3 (fun M' hf hp => h M' hf (b1.fr hf (fun k hk _ => by omega)) (b2.fr hf (by omega)) hp)
theorem X_hours {n : Int} (hd : 12 ≤ d) (hX : CX M W) (hok : OKW W) (h : ∀ M', FX M M' → CX M' (wHours W n).2 → Q (some (vI (wHours W n).1)) M') : Call d mX10_hours [vR 6, vI n] M Q := by
  obtain ⟨e, rfl⟩ := dd (d := d) (by omega)
  have hS := hX.shp
  have h09 := hok.h0
  refine vx_hours (by omega) hS ⟨fun c0 => ?_, fun c0 => ?_⟩
  · rw [i01n, hX.np] at c0
    have hn : ¬ W.I.np = 0 := by omega
    refine ⟨fun c1 => ?_, fun c1 => ⟨fun c2 => ?_, fun c2 => ?_⟩⟩
    · have ew : wHours W n = (-1, W.ref 1) := by unfold wHours; rw [if_neg hn, if_pos (by omega)]
      rw [ew] at h
      exact X_ref 1 hX hok (by decide) h
    · rw [hX.now.2.1, w32_i (by omega) (by omega)]
      refine ⟨fun c3 => ?_, fun c3 => ?_⟩
      · have ew : wHours W n = ((itF (hrA W.I) n.toNat W.A).1 0 9, W.setA (itF (hrA W.I) n.toNat W.A)) := by unfold wHours; rw [if_neg hn, if_neg (by omega), if_neg (by omega)]
        rw [ew] at h
        obtain ⟨n1, n2, n3⟩ := hX.now
        obtain ⟨b1, b2⟩ := n1 (by omega)
        obtain ⟨m, rfl⟩ : ∃ m : Nat, n = (m : Int) := ⟨n.toNat, by omega⟩
        rw [Int.toNat_natCast] at h
        refine x_weigh (by omega) hS hX.ia hok.wi (by decide) b1 (hok.gs (by omega)).1 (fun M1 hf1 a1 => ⟨rfl, hf1.shp hS, ?_⟩)
        have g1 : Fr (Ac M) M M1 := hf1.mono (by intro r hr; unfold Ac; unfold Wp at *; omega)
        refine up_to (R := fun i => ∀ M1, Fr (Ac M) M M1 → iv M1 6 = iv M 6 → SA M1 33 (pW W.I (itF (hrA W.I) i W.A).1) → SL M1 33 (itF (hrA W.I) i W.A).1 → PA M1 (itF (hrA W.I) i W.A).2.1 (itF (hrA W.I) i W.A).2.2 → Run (e + 1) mX10_hours 64 [some (vR 6), some (vI (m : Int)), some (vI (i : Int))] [] M1 Q) m ?_ ?_ M1 g1 (hf1.eiv (by unfold Wp; omega)) a1 (b2.fr hf1 (by unfold Wp; omega)) (n3.fr hf1 (fun r _ _ => by unfold Wp; omega))
        · intro M2 f2 e6 a2 l2 p2
          refine vx_hours_64 (by omega) (f2.shp hS) ⟨fun _ => ?_, fun c => absurd (Int.le_refl _) c⟩
          have sb : SB M2 33 (itF (hrA W.I) m W.A).1 := a2.sb (fun f i hf => (pW_n hf))
          rw [sb.w0 (i := 9) ⟨by omega, by omega⟩]
          obtain ⟨q1, q2⟩ := hX.setA hok f2 e6 sb l2 p2
          exact h M2 q2 q1
        · intro i hi ih M2 f2 e6 a2 l2 p2
          have s2 := f2.shp hS
          have o2 : OKA W.I.np (itF (hrA W.I) i W.A) := hrA_ok hok.wi (hok.oka (by omega)) i (by have ez : W.A.1 0 9 = W.s 0 9 := rfl; omega)
          have o9 := hrA_9 (I := W.I) (a := W.A) i
          have ez : W.A.1 0 9 = W.s 0 9 := rfl
          have sb : SB M2 33 (itF (hrA W.I) i W.A).1 := a2.sb (fun f i hf => (pW_n hf))
          refine vx_hours_64 (by omega) s2 ⟨fun c => absurd c (by omega), fun _ => x_keep (by omega) s2 sb l2 p2 (fun M3 f3 p3 => ⟨rfl, f3.shp s2, ?_⟩)⟩
          have s3 := f3.shp s2
          have g3 : Fr (Ac M) M M3 := f2.trans (f3.mono (by intro r hr; unfold Ac; omega))
          have A3 : IA M3 W.I := hX.ia.xc g3 (fun r hr => by unfold Ac Wp at hr; unfold Xc Wp; omega)
          refine x_letPass (by omega) s3 A3 hok.wi (a2.fr f3 (fun k hk => by omega)) (l2.fr f3 (by omega)) o2.1.1 (by omega) (fun M4 f4 a4 l4 => ⟨rfl, f4.shp s3, ?_⟩)
          rw [w32s (by omega)]
          rw [Wp_eq g3] at f4
          exact ih M4 (g3.trans (f4.mono (by intro r hr; unfold Ac; unfold Wp at *; omega))) (by rw [f4.eiv (by unfold Wp; omega), f3.eiv (by omega), e6]) a4 l4 (p3.fr f4 (fun r _ _ => by unfold Wp; omega))
      · have ew : wHours W n = (-1, W.ref 4) := by unfold wHours; rw [if_neg hn, if_neg (by omega), if_pos (by omega)]
        rw [ew] at h
        exact X_ref 4 hX hok (by decide) h
    · have ew : wHours W n = (-1, W.ref 1) := by unfold wHours; rw [if_neg hn, if_pos (by omega)]
      rw [ew] at h
      exact X_ref 1 hX hok (by decide) h
  · rw [i01n, hX.np] at c0
    have ew : wHours W n = (-1, W.ref 0) := by unfold wHours; rw [if_pos (by omega)]
    rw [ew] at h
    exact X_ref 0 hX hok (by decide) h
theorem X_years {n x : Int} (hd : 12 ≤ d) (hX : CX M W) (hok : OKW W) (h : ∀ M', FX M M' → CX M' (wYears W n x).2 → Q (some (vI (wYears W n x).1)) M') : Call d mX10_years [vR 6, vI n, vL x] M Q := by
  obtain ⟨e, rfl⟩ := dd (d := d) (by omega)
  have hS := hX.shp
  have h09 := hok.h0
  have nope : (W.I.np = 0 ∨ n < 1 ∨ 60 < n ∨ 9999 < W.s 0 9 + n) → Q (some (vI (-1))) M := by
    intro c
    have ew : wYears W n x = (-1, W) := by unfold wYears; rw [if_pos c]
    rw [ew] at h
    exact h M (FX.obs (P := fun _ => False) Fr.refl hS (fun _ z => z.elim)) hX
  refine vx_years (by omega) hS ⟨fun c0 => ?_, fun c0 => ?_⟩
  · rw [i01, hX.np] at c0
    exact nope (Or.inl (by omega))
  · rw [i01, hX.np] at c0
    refine ⟨fun c1 => nope (by omega), fun c1 => ⟨fun c2 => nope (by omega), fun c2 => ?_⟩⟩
    rw [hX.now.2.1, w32_i (by omega) (by omega)]
    refine ⟨fun c3 => ?_, fun c3 => nope (by omega)⟩
    have ew : wYears W n x = ((itF (yrA W.I W.me) n.toNat (W.A, x)).1.1 0 9, W.setA (itF (yrA W.I W.me) n.toNat (W.A, x)).1) := by unfold wYears; rw [if_neg (by omega)]
    rw [ew] at h
    obtain ⟨n1, n2, n3⟩ := hX.now
    obtain ⟨b1, b2⟩ := n1 (by omega)
    have hn2 := hok.n2 (by omega)
    obtain ⟨m, rfl⟩ : ∃ m : Nat, n = (m : Int) := ⟨n.toNat, by omega⟩
    rw [Int.toNat_natCast] at h
    have fx : Fr (fun r => r = 6) M (sl M 6 8 x) := fr_sl rfl
    refine up_to (R := fun i => ∀ M1, Fr (Ac M) M M1 → iv M1 6 = iv M 6 → lg M1 6 8 = (itF (yrA W.I W.me) i (W.A, x)).2 → SB M1 33 (itF (yrA W.I W.me) i (W.A, x)).1.1 → SL M1 33 (itF (yrA W.I W.me) i (W.A, x)).1.1 → PA M1 (itF (yrA W.I W.me) i (W.A, x)).1.2.1 (itF (yrA W.I W.me) i (W.A, x)).1.2.2 → Run (e + 1) mX10_years 43 [some (vR 6), some (vI (m : Int)), some (vL x), none, some (vI (i : Int))] [] M1 Q) m ?_ ?_ _ (fx.mono (by intro r hr; unfold Ac; omega)) rfl lg_sle (b1.fr fx (fun k hk _ => by omega)) (b2.fr fx (by omega)) (n3.fr fx (fun r _ _ => by omega))
    · intro M2 f2 e6 _ sb l2 p2
      refine vx_years_43 (by omega) (f2.shp hS) ⟨fun _ => ?_, fun c => absurd (Int.le_refl _) c⟩
      rw [sb.w0 (i := 9) ⟨by omega, by omega⟩]
      obtain ⟨q1, q2⟩ := hX.setA hok f2 e6 sb l2 p2
      exact h M2 q2 q1
    · intro i hi ih M2 f2 e6 d2 sb l2 p2
      have s2 := f2.shp hS
      have ez : (W.A, x).1.1 0 9 = W.s 0 9 := rfl
      have o2 : OKA W.I.np (itF (yrA W.I W.me) i (W.A, x)).1 := yrA_ok hok.wi hn2 (hok.oka (by omega)) i (by omega)
      have o9 := yrA_9 (I := W.I) (me := W.me) (b := (W.A, x)) i
      refine vx_years_43 (by omega) s2 ⟨fun c => absurd c (by omega), fun _ => x_keep (by omega) s2 sb l2 p2 (fun M3 f3 p3 => ⟨rfl, f3.shp s2, ?_⟩)⟩
      have s3 := f3.shp s2
      have g3 : Fr (Ac M) M M3 := f2.trans (f3.mono (by intro r hr; unfold Ac; omega))
      have A3 : IA M3 W.I := hX.ia.xc g3 (fun r hr => by unfold Ac Wp at hr; unfold Xc Wp; omega)
      have k6 : iv M3 6 = iv M 6 := by rw [f3.eiv (by omega), e6]
      refine x_drawHour (me := W.me) (by omega) s3 A3 hok.wi hn2 (sb.fr f3 (fun k hk _ => by omega)) (by rw [k6]; exact hX.me) (fun M4 f4 k4 sb4 d4 => ⟨rfl, f4.shp s3, ?_⟩)
      rw [f3.elg (by omega), d2] at sb4 d4
      have s4 := f4.shp s3
      have g4 : Fr (Ac M) M M4 := g3.trans (f4.mono (by intro r hr; unfold Ac; omega))
      have A4 : IA M4 W.I := hX.ia.xc g4 (fun r hr => by unfold Ac Wp at hr; unfold Xc Wp; omega)
      have gs4 : GS W.I.np (drw W.I W.me (itF (yrA W.I W.me) i (W.A, x)).1.1 (itF (yrA W.I W.me) i (W.A, x)).2).1 := GS.dr hok.wi hn2 o2.1
      refine x_weigh (by omega) s4 A4 hok.wi (by decide) sb4 gs4.1 (fun M5 f5 a5 => ⟨rfl, f5.shp s4, ?_⟩)
      have s5 := f5.shp s4
      rw [Wp_eq g4] at f5
      have g5 : Fr (Ac M) M M5 := g4.trans (f5.mono (by intro r hr; unfold Ac; unfold Wp at *; omega))
      have A5 : IA M5 W.I := hX.ia.xc g5 (fun r hr => by unfold Ac Wp at hr; unfold Xc Wp; omega)
      have l5 : SL M5 33 (drw W.I W.me (itF (yrA W.I W.me) i (W.A, x)).1.1 (itF (yrA W.I W.me) i (W.A, x)).2).1 := by
        intro j hj
        rw [drw_o (Or.inr (by omega)), f5.eiv (by unfold Wp; omega), f4.eiv (by omega), f3.eiv (by omega)]
        exact l2 j hj
      refine x_letPass (by omega) s5 A5 hok.wi a5 l5 gs4.1 (by rw [drw_o (Or.inl ⟨rfl, by decide⟩)]; omega) (fun M6 f6 a6 l6 => ⟨rfl, f6.shp s5, ?_⟩)
      rw [w32s (by omega)]
      rw [Wp_eq g5] at f6
      refine ih M6 (g5.trans (f6.mono (by intro r hr; unfold Ac; unfold Wp at *; omega))) ?_ ?_ (a6.sb (fun f i hf => pW_n hf)) l6 ?_
      · rw [f6.eiv (by unfold Wp; omega), f5.eiv (by unfold Wp; omega), k4, k6]
      · rw [f6.elg (by unfold Wp; omega), f5.elg (by unfold Wp; omega), d4]; rfl
      · exact ((p3.fr f4 (fun r _ _ => by omega)).fr f5 (fun r _ _ => by unfold Wp; omega)).fr f6 (fun r _ _ => by unfold Wp; omega)
theorem X_think {p o k t : Int} (hd : 8 ≤ d) (hX : CX M W) (hok : OKW W) (h : ∀ M', FX M M' → CX M' (wThink W p o k t).2 → Q (some (vI (wThink W p o k t).1)) M') : Call d mX10_think [vR 6, vI p, vI o, vI k, vI t] M Q := by
  obtain ⟨e, rfl⟩ := dd (d := d) (by omega)
  have hS := hX.shp
  have hn8 := hok.wi.1
  have r0 : ¬ (0 ≤ p ∧ p < W.I.np ∧ 0 ≤ o ∧ o < W.I.np) → Q (some (vI (-1))) (ptv M 5 28 (0 : Int) (w32 (atv M 5 28 (0 : Int) + 1))) := by
    intro c
    have ew : wThink W p o k t = (-1, W.ref 0) := by unfold wThink; rw [if_pos c]
    rw [ew] at h
    exact X_ref 0 hX hok (by decide) h
  have r1 : (0 ≤ p ∧ p < W.I.np ∧ 0 ≤ o ∧ o < W.I.np) → (p = o ∨ ¬ (0 ≤ k ∧ k < 3) ∨ t < 1 ∨ 9 < t) → Q (some (vI (-1))) (ptv M 5 28 (1 : Int) (w32 (atv M 5 28 (1 : Int) + 1))) := by
    intro c c2
    have ew : wThink W p o k t = (-1, W.ref 1) := by unfold wThink; rw [if_neg (by omega), if_pos c2]
    rw [ew] at h
    exact X_ref 1 hX hok (by decide) h
  refine vx_think (by omega) hS ⟨fun c1 => ?_, fun c1 => ⟨fun c2 => ⟨fun c3 => ?_, fun c3 => ⟨fun c4 => ?_, fun c4 => ⟨fun c5 => ?_, fun c5 => ⟨fun c6 => ?_, fun c6 => ?_⟩⟩⟩⟩, fun c2 => ?_⟩⟩
  · rw [i01, hX.np] at c1; exact r0 (by omega)
  · rw [i01, hX.np] at c1; rw [i01n, hX.np] at c2; exact r1 (by omega) (by omega)
  · rw [i01, hX.np] at c1; rw [i01n, hX.np] at c2; rw [fK_0] at c4; exact r1 (by omega) (by omega)
  · rw [i01, hX.np] at c1; rw [i01n, hX.np] at c2; exact r1 (by omega) (by omega)
  · rw [i01, hX.np] at c1; rw [i01n, hX.np] at c2; rw [fK_0] at c4
    obtain ⟨q, rfl⟩ : ∃ q : Nat, p = (q : Int) := ⟨p.toNat, by omega⟩
    unfold wThink at h
    rw [if_neg (by omega), if_neg (by omega), Int.toNat_natCast] at h
    rw [atv_n (by omega : q < 8), hX.ia.2.2.2.2.1 q (by omega)]
    obtain ⟨n1, n2, n3⟩ := hX.now
    obtain ⟨b1, b2⟩ := n1 (by omega)
    refine ⟨fun c7 => ?_, fun c7 => ?_⟩
    · rw [if_neg c7] at h
      refine t_emptyPlace (by omega) hS (by decide) b1.sa (by omega) ⟨_, rfl, hS, ?_⟩
      have e1 : smS M 33 W.s 1 = W.s 1 := funext (fun i => smS_n (by decide))
      rw [e1]
      refine ⟨fun c8 => ?_, fun c8 => ?_⟩
      · rw [if_neg c8] at h
        refine x_kept (s' := W.s) (by omega) hX (by omega) (fun M2 f2 sb l2 p2 => ⟨rfl, f2.shp hS, ?_⟩)
        have s2 := f2.shp hS
        have hf := fE_in (W.s 1) q
        obtain ⟨r, hr⟩ : ∃ r : Nat, fE (W.s 1) q = (r : Int) := ⟨(fE (W.s 1) q).toNat, by omega⟩
        rw [hr] at h hf ⊢
        rw [Int.toNat_natCast] at h
        refine t_layIn (by omega) s2 (by decide) sb.sa (by omega) (by omega) (fun M3 f3 a3 => ⟨rfl, f3.shp s2, ?_⟩)
        have g3 : Fr (Ac M) M M3 := (f2.mono (by intro r hr; unfold Ac; omega)).trans (f3.mono (by intro r hr; unfold Sp at hr; unfold Ac; omega))
        obtain ⟨q1, q2⟩ := hX.setA (a := kpA W.A (pLay W.s (4 * q + r) o k t)) hok g3 (by rw [f3.eiv (by unfold Sp; omega), f2.eiv (by omega)]) (a3.sb (fun f i hf => by unfold pLay; rw [smS_n hf]; rfl)) (fun j hj => by
          show _ = pLay W.s (4 * q + r) o k t 7 j
          rw [pLay_o (by omega), f3.eiv (by unfold Sp; omega)]; exact l2 j hj) (p2.fr f3 (fun r _ _ => by unfold Sp; omega))
        exact h M3 q2 q1
      · rw [if_pos (by omega)] at h
        exact X_ref 3 hX hok (by decide) h
    · rw [if_pos (by omega)] at h
      exact X_ref 2 hX hok (by decide) h
  · rw [i01, hX.np] at c1; rw [i01n, hX.np] at c2; exact r1 (by omega) (by omega)
  · rw [i01, hX.np] at c1; rw [i01n, hX.np] at c2; exact r0 (by omega)
theorem X_forget {p i : Int} (hd : 6 ≤ d) (hX : CX M W) (hok : OKW W) (h : ∀ M', FX M M' → CX M' (wForget W p i).2 → Q (some (vI (wForget W p i).1)) M') : Call d mX10_forget [vR 6, vI p, vI i] M Q := by
  obtain ⟨e, rfl⟩ := dd (d := d) (by omega)
  have hS := hX.shp
  have hn8 := hok.wi.1
  unfold wForget at h
  refine vx_forget (by omega) hS ⟨fun c1 => ⟨fun c2 => ?_, fun c2 => ?_⟩, fun c1 => ?_⟩
  · rw [i01n, hX.np] at c1; rw [fP_n] at c2
    obtain ⟨q, rfl⟩ : ∃ q : Nat, p = (q : Int) := ⟨p.toNat, by omega⟩
    obtain ⟨r, rfl⟩ : ∃ r : Nat, i = (r : Int) := ⟨i.toNat, by omega⟩
    rw [if_neg (by omega), if_neg (by omega), Int.toNat_natCast, Int.toNat_natCast] at h
    obtain ⟨n1, n2, n3⟩ := hX.now
    obtain ⟨b1, b2⟩ := n1 (by omega)
    have ea : atv M 32 34 (w32 (w32 ((q : Int) * 4) + (r : Int))) = W.s 1 (4 * q + r) := by
      rw [four (by omega) (by omega), atv_n (by omega)]
      exact b1.w1 (f := 1) ⟨by omega, by omega⟩ (by omega)
    rw [ea]
    refine ⟨fun c3 => ?_, fun c3 => ?_⟩
    · rw [if_neg c3] at h
      refine x_kept (s' := W.s) (by omega) hX (by omega) (fun M2 f2 sb l2 p2 => ⟨rfl, f2.shp hS, ?_⟩)
      rw [four (by omega) (by omega)]
      have f3 : Fr (fun r => r = 34) M2 (ptv M2 32 34 ((4 * q + r : Nat) : Int) (-1)) := fr_ptv rfl
      have g3 : Fr (Ac M) M (ptv M2 32 34 ((4 * q + r : Nat) : Int) (-1)) := (f2.mono (by intro r hr; unfold Ac; omega)).trans (f3.mono (by intro r hr; unfold Ac; omega))
      obtain ⟨q1, q2⟩ := hX.setA (a := kpA W.A (pSet W.s 1 (4 * q + r) (-1))) hok g3 (by rw [f3.eiv (by omega), f2.eiv (by omega)]) (fun f j hi hf => by
          rw [iv_ptv]
          show _ = if j = 4 * q + r ∧ f = 1 then -1 else W.s f j
          by_cases c : j = 4 * q + r ∧ f = 1
          · rw [if_pos ⟨by omega, by omega, by omega⟩, if_pos c]
          · rw [if_neg (by omega), if_neg c]; exact sb f j hi hf) (fun j hj => by
          show _ = pSet W.s 1 (4 * q + r) (-1) 7 j
          rw [pSet_o (by omega), f3.eiv (by omega)]; exact l2 j hj) (p2.fr f3 (fun r _ _ => by omega))
      exact h _ q2 q1
    · rw [if_pos (by omega)] at h
      exact X_ref 2 hX hok (by decide) h
  · rw [i01n, hX.np] at c1; rw [fP_n] at c2
    rw [if_neg (by omega), if_pos (by omega)] at h
    exact X_ref 1 hX hok (by decide) h
  · rw [i01n, hX.np] at c1
    rw [if_pos (by omega)] at h
    exact X_ref 0 hX hok (by decide) h
theorem X_hem {p n : Int} (hd : 6 ≤ d) (hX : CX M W) (hok : OKW W) (h : ∀ M', FX M M' → CX M' (wHem W p n).2 → Q (some (vI (wHem W p n).1)) M') : Call d mX10_hem [vR 6, vI p, vI n] M Q := by
  obtain ⟨e, rfl⟩ := dd (d := d) (by omega)
  have hS := hX.shp
  have hn8 := hok.wi.1
  unfold wHem at h
  refine vx_hem (by omega) hS ⟨fun c1 => ⟨fun c2 => ?_, fun c2 => ⟨fun c3 => ?_, fun c3 => ?_⟩⟩, fun c1 => ?_⟩
  · rw [i01n, hX.np] at c1
    rw [if_neg (by omega), if_pos (by omega)] at h
    exact X_ref 1 hX hok (by decide) h
  · rw [i01n, hX.np] at c1
    obtain ⟨q, rfl⟩ : ∃ q : Nat, p = (q : Int) := ⟨p.toNat, by omega⟩
    rw [if_neg (by omega), if_neg (by omega), Int.toNat_natCast] at h
    obtain ⟨n1, n2, n3⟩ := hX.now
    obtain ⟨b1, b2⟩ := n1 (by omega)
    have g := (hok.gs (by omega)).1
    have g6 := g.2.2.1 q (by omega)
    have g8 := g.2.2.2.2.1
    have e8 : iv M 33 8 = W.s 0 8 := b1.w0 (i := 8) ⟨by omega, by omega⟩
    have e6 : atv M 8 39 (q : Int) = W.s 6 q := by rw [atv_n (by omega)]; exact b1.w6 (by omega)
    rw [e8, e6, w32_i (z := W.s 6 q + n) (by omega) (by omega)]
    refine ⟨fun c4 => ?_, fun c4 => ⟨fun c5 => ?_, fun c5 => ?_⟩⟩
    · rw [if_pos (by omega)] at h
      exact X_ref 3 hX hok (by decide) h
    · rw [if_neg (by omega)] at h
      refine x_kept (s' := W.s) (by omega) hX (by omega) (fun M2 f2 sb l2 p2 => ⟨rfl, f2.shp hS, ?_⟩)
      have e82 : iv M2 33 8 = W.s 0 8 := sb.w0 (i := 8) ⟨by omega, by omega⟩
      rw [e82, w32_i (by omega) (by omega)]
      have f3 : Fr (fun r => r = 33 ∨ r = 39) M2 (ptv (si M2 33 8 (W.s 0 8 - n)) 8 39 (q : Int) (W.s 6 q + n)) := (fr_si (Or.inl rfl)).pv (Or.inr rfl)
      have g3 : Fr (Ac M) M (ptv (si M2 33 8 (W.s 0 8 - n)) 8 39 (q : Int) (W.s 6 q + n)) := (f2.mono (by intro r hr; unfold Ac; omega)).trans (f3.mono (by intro r hr; unfold Ac; omega))
      obtain ⟨q1, q2⟩ := hX.setA (a := kpA W.A (pSet (pSet W.s 0 8 (W.s 0 8 - n)) 6 q (W.s 6 q + n))) hok g3 (by rw [f3.eiv (by omega), f2.eiv (by omega)]) (fun f j hi hf => by
          rw [iv_ptv, iv_si]
          show _ = if j = q ∧ f = 6 then W.s 6 q + n else if j = 8 ∧ f = 0 then W.s 0 8 - n else W.s f j
          by_cases c : j = q ∧ f = 6
          · rw [if_pos ⟨by omega, by omega, by omega⟩, if_pos c]
          · rw [if_neg (by omega), if_neg c]
            by_cases c' : j = 8 ∧ f = 0
            · rw [if_pos ⟨by omega, by omega⟩, if_pos c']
            · rw [if_neg (by omega), if_neg c']; exact sb f j hi hf) (fun j hj => by
          show _ = pSet (pSet W.s 0 8 (W.s 0 8 - n)) 6 q (W.s 6 q + n) 7 j
          rw [pSet_o (by omega), pSet_o (by omega), f3.eiv (by omega)]; exact l2 j hj) (p2.fr f3 (fun r _ _ => by omega))
      exact h _ q2 q1
    · rw [if_pos (by omega)] at h
      exact X_ref 3 hX hok (by decide) h
  · rw [i01n, hX.np] at c1
    rw [if_neg (by omega), if_pos (by omega)] at h
    exact X_ref 1 hX hok (by decide) h
  · rw [i01n, hX.np] at c1
    rw [if_pos (by omega)] at h
    exact X_ref 0 hX hok (by decide) h
theorem X_wind {v : Int} (hd : 6 ≤ d) (hX : CX M W) (hok : OKW W) (h : ∀ M', FX M M' → CX M' (wWind W v).2 → Q (some (vI (wWind W v).1)) M') : Call d mX10_wind [vR 6, vI v] M Q := by
  obtain ⟨e, rfl⟩ := dd (d := d) (by omega)
  have hS := hX.shp
  unfold wWind at h
  refine vx_wind (by omega) hS ⟨fun c1 => ⟨fun c2 => ?_, fun c2 => ⟨fun c3 => ?_, fun c3 => ?_⟩⟩, fun c1 => ?_⟩
  · rw [i01n, hX.np] at c1
    rw [if_neg (by omega), if_pos (by omega)] at h
    exact X_ref 1 hX hok (by decide) h
  · rw [i01n, hX.np] at c1
    rw [if_neg (by omega), if_neg (by omega)] at h
    obtain ⟨n1, n2, n3⟩ := hX.now
    obtain ⟨b1, b2⟩ := n1 (by omega)
    have e7 : iv M 33 7 = W.s 0 7 := b1.w0 (i := 7) ⟨by omega, by omega⟩
    rw [e7]
    refine ⟨fun c4 => ?_, fun c4 => ?_⟩
    · rw [if_neg c4] at h
      refine x_kept (s' := W.s) (by omega) hX (by omega) (fun M2 f2 sb l2 p2 => ⟨rfl, f2.shp hS, ?_⟩)
      have f3 : Fr (fun r => r = 33) M2 (si M2 33 7 v) := fr_si rfl
      have g3 : Fr (Ac M) M (si M2 33 7 v) := (f2.mono (by intro r hr; unfold Ac; omega)).trans (f3.mono (by intro r hr; unfold Ac; omega))
      obtain ⟨q1, q2⟩ := hX.setA (a := kpA W.A (pSet W.s 0 7 v)) hok g3 (by rw [f3.eiv (by omega), f2.eiv (by omega)]) (fun f j hi hf => by
          rw [iv_si]
          show _ = if j = 7 ∧ f = 0 then v else W.s f j
          by_cases c : j = 7 ∧ f = 0
          · rw [if_pos ⟨by omega, by omega⟩, if_pos c]
          · rw [if_neg (by omega), if_neg c]; exact sb f j hi hf) (fun j hj => by
          show _ = pSet W.s 0 7 v 7 j
          rw [pSet_o (by omega), f3.eiv (by omega)]; exact l2 j hj) (p2.fr f3 (fun r _ _ => by omega))
      exact h _ q2 q1
    · rw [if_pos (by omega)] at h
      exact X_ref 2 hX hok (by decide) h
  · rw [i01n, hX.np] at c1
    rw [if_neg (by omega), if_pos (by omega)] at h
    exact X_ref 1 hX hok (by decide) h
  · rw [i01n, hX.np] at c1
    rw [if_pos (by omega)] at h
    exact X_ref 0 hX hok (by decide) h
theorem X_give {n : Int} (hd : 6 ≤ d) (hX : CX M W) (hok : OKW W) (h : ∀ M', FX M M' → CX M' (wGive W n).2 → Q (some (vI (wGive W n).1)) M') : Call d mX10_give [vR 6, vI n] M Q := by
  obtain ⟨e, rfl⟩ := dd (d := d) (by omega)
  have hS := hX.shp
  unfold wGive at h
  refine vx_give (by omega) hS ⟨fun c1 => ⟨fun c2 => ?_, fun c2 => ⟨fun c3 => ?_, fun c3 => ?_⟩⟩, fun c1 => ?_⟩
  · rw [i01n, hX.np] at c1
    rw [if_neg (by omega), if_pos (by omega)] at h
    exact X_ref 1 hX hok (by decide) h
  · rw [i01n, hX.np] at c1
    rw [if_neg (by omega), if_neg (by omega)] at h
    obtain ⟨n1, n2, n3⟩ := hX.now
    obtain ⟨b1, b2⟩ := n1 (by omega)
    have g8 := (hok.gs (by omega)).1.2.2.2.2.1
    have e8 : iv M 33 8 = W.s 0 8 := b1.w0 (i := 8) ⟨by omega, by omega⟩
    rw [e8, w32_i (by omega) (by omega)]
    refine ⟨fun c4 => ?_, fun c4 => ?_⟩
    · rw [if_neg (by omega)] at h
      refine x_kept (s' := W.s) (by omega) hX (by omega) (fun M2 f2 sb l2 p2 => ⟨rfl, f2.shp hS, ?_⟩)
      have e82 : iv M2 33 8 = W.s 0 8 := sb.w0 (i := 8) ⟨by omega, by omega⟩
      rw [e82, w32_i (by omega) (by omega), iv_si, if_pos ⟨rfl, rfl⟩]
      have f3 : Fr (fun r => r = 33) M2 (si M2 33 8 (W.s 0 8 + n)) := fr_si rfl
      have g3 : Fr (Ac M) M (si M2 33 8 (W.s 0 8 + n)) := (f2.mono (by intro r hr; unfold Ac; omega)).trans (f3.mono (by intro r hr; unfold Ac; omega))
      obtain ⟨q1, q2⟩ := hX.setA (a := kpA W.A (pSet W.s 0 8 (W.s 0 8 + n))) hok g3 (by rw [f3.eiv (by omega), f2.eiv (by omega)]) (fun f j hi hf => by
          rw [iv_si]
          show _ = if j = 8 ∧ f = 0 then W.s 0 8 + n else W.s f j
          by_cases c : j = 8 ∧ f = 0
          · rw [if_pos ⟨by omega, by omega⟩, if_pos c]
          · rw [if_neg (by omega), if_neg c]; exact sb f j hi hf) (fun j hj => by
          show _ = pSet W.s 0 8 (W.s 0 8 + n) 7 j
          rw [pSet_o (by omega), f3.eiv (by omega)]; exact l2 j hj) (p2.fr f3 (fun r _ _ => by omega))
      exact h _ q2 q1
    · rw [if_pos (by omega)] at h
      exact X_ref 3 hX hok (by decide) h
  · rw [i01n, hX.np] at c1
    rw [if_neg (by omega), if_pos (by omega)] at h
    exact X_ref 1 hX hok (by decide) h
  · rw [i01n, hX.np] at c1
    rw [if_pos (by omega)] at h
    exact X_ref 0 hX hok (by decide) h
theorem X_undo (hd : 6 ≤ d) (hX : CX M W) (hok : OKW W) (h : ∀ M', FX M M' → CX M' (wUndo W).2 → Q (some (vI (wUndo W).1)) M') : Call d mX10_undo [vR 6] M Q := by
  obtain ⟨e, rfl⟩ := dd (d := d) (by omega)
  have hS := hX.shp
  have hK := hok.2.2.2.2.1.1
  unfold wUndo at h
  refine vx_undo (by omega) hS (x_takeBack (by omega) hS hX.now.2.2 (fun c => ⟨_, rfl, hS, ?_⟩) (fun M2 c f2 sb l2 p2 => ⟨_, rfl, f2.shp hS, ?_⟩))
  · rw [if_pos c] at h
    rw [if_pos rfl]
    exact h M (FX.obs (P := fun _ => False) Fr.refl hS (fun _ z => z.elim)) hX
  · rw [if_neg (by omega)] at h
    rw [if_neg (by decide)]
    obtain ⟨nx, p1, p3, p4, _⟩ := id p2
    rw [p4]
    obtain ⟨q1, q2⟩ := hX.setA (a := (W.P 0, W.K - 1, fun k => W.P (k + 1))) hok (f2.mono (by intro r hr; unfold Ac; omega)) (f2.eiv (by omega)) sb l2 p2
    have := h M2 q2 q1
    rw [show ((W.K - 1 : Nat) : Int) = (W.K : Int) - 1 by omega]
    exact this
theorem X_image (hd : 6 ≤ d) (hX : CX M W) (hok : OKW W) (h : ∀ M', FX M M' → CX M' (wImage W).2 → Q (some (vI (wImage W).1)) M') : Call d mX10_image [vR 6] M Q := by
  obtain ⟨e, rfl⟩ := dd (d := d) (by omega)
  have hS := hX.shp
  unfold wImage at h
  refine vx_image (by omega) hS ⟨fun c => ?_, fun c => ?_⟩
  · rw [i01n, hX.np] at c
    rw [if_neg (by omega)] at h
    obtain ⟨n1, n2, n3⟩ := hX.now
    obtain ⟨b1, b2⟩ := n1 (by omega)
    refine t_copyAll (by omega) hS (by decide) (by decide) (by decide) b1.sa b2 (fun M2 f2 a2 l2 => ⟨rfl, f2.shp hS, ?_⟩)
    rw [iv_si, if_neg (by omega), f2.eiv (by omega), n2]
    have f3 : Fr (fun r => r = 6) M2 (si M2 6 14 1) := fr_si rfl
    have g3 : Fr (fun r => r = 6 ∨ (57 ≤ r ∧ r < 65)) M (si M2 6 14 1) := (f2.mono (by intro r hr; omega)).trans (f3.mono (by intro r hr; omega))
    have e6 : ∀ j, j ≠ 14 → iv (si M2 6 14 1) 6 j = iv M 6 j := by intro j hj; rw [iv_si, if_neg (by omega), f2.eiv (by omega)]
    refine h _ (FX.of g3 hS (fun r hr => by omega)) ?_
    obtain ⟨a0, a1, a2', a3, a4, a5, a6, a7, a8, a9, a10⟩ := hX
    refine ⟨g3.shp hS, a1.xc g3 (fun r hr => by unfold Xc; omega), ?_, ?_, ?_, ?_, ?_, ?_, ?_, ?_, ?_⟩
    · exact ⟨fun z => ⟨b1.fr g3 (fun k hk _ => by omega), b2.fr g3 (by omega)⟩, by rw [g3.eiv (by omega)]; exact n2, n3.fr g3 (fun r _ _ => by omega)⟩
    · refine ⟨by rw [iv_si, if_pos ⟨rfl, rfl⟩]; rfl, fun u hu => ?_⟩
      have : some W.s = some u := hu
      cases this
      exact ⟨(a2.fr f3 (fun k hk => by omega)).sb (fun _ _ => smS_n), l2.fr f3 (by omega)⟩
    · exact fun z => (a4 z).fr g3 (fun k hk _ => by omega)
    · obtain ⟨r1, r2, r3⟩ := a5
      refine ⟨by rw [g3.eiv (by omega)]; exact r1, fun k hk => ?_, ?_⟩
      · rw [g3.eiv (r := 388) (by omega), g3.eiv (r := 389) (by omega), g3.eiv (r := 390) (by omega), g3.eiv (r := 391) (by omega)]; exact r2 k hk
      · rw [g3.eiv (r := 387) (by omega)]; exact r3.imp id (fun z => ⟨z.1, z.2.fr g3 (fun r hr => by omega)⟩)
    · unfold TapX at a6 ⊢; rw [g3.eiv (r := 7) (by omega), g3.eiv (r := 8) (by omega)]; exact a6
    · obtain ⟨l1, l2', G, l3, l4, l5, l7⟩ := a7
      unfold LawX
      rw [g3.erv]
      refine ⟨by rw [e6 4 (by decide)]; exact l1, by rw [e6 5 (by decide)]; exact l2', G, fun k hk => ?_, l4, l5, l7⟩
      obtain ⟨z1, z2, z3, z4, z5⟩ := l3 k hk
      obtain ⟨y1, y2⟩ := lawF_fr (g := G k) g3 (fun k hk => by omega)
      exact ⟨z1, z2, g3.law z3, y2 z4, by rw [y1]; exact z5⟩
    · unfold RefX at a8 ⊢; rw [g3.eiv (r := 28) (by omega)]; exact a8
    · unfold RdrX LgtX; rw [g3.eiv (r := 12) (by omega), g3.eiv (r := 13) (by omega), g3.eiv (r := 14) (by omega), g3.eiv (r := 43) (by omega), g3.eiv (r := 44) (by omega), g3.eiv (r := 45) (by omega), g3.eiv (r := 48) (by omega)]; exact a9
    · rw [e6 6 (by decide)]; exact a10
  · rw [i01n, hX.np] at c
    rw [if_pos (by omega)] at h
    exact h M (FX.obs (P := fun _ => False) Fr.refl hS (fun _ z => z.elim)) hX
theorem X_back (hd : 6 ≤ d) (hX : CX M W) (hok : OKW W) (h : ∀ M', FX M M' → CX M' (wBack W).2 → Q (some (vI (wBack W).1)) M') : Call d mX10_back [vR 6] M Q := by
  obtain ⟨e, rfl⟩ := dd (d := d) (by omega)
  have hS := hX.shp
  obtain ⟨p1, p2⟩ := hX.2.2.2.1
  unfold wBack at h
  have none_ : W.pc = none → Q (some (vI (-1))) M := by
    intro hp
    rw [hp] at h
    exact h M (FX.obs (P := fun _ => False) Fr.refl hS (fun _ z => z.elim)) hX
  refine vx_back (by omega) hS ⟨fun c => ?_, fun c => ⟨fun c2 => ?_, fun c2 => ?_⟩⟩
  · rw [i01, hX.np] at c
    exact none_ (hok.2.2.2.1 (by omega)).2.2.1
  · rw [i01, hX.np] at c
    cases hp : W.pc with
    | none =>
      rw [hp] at p1
      exact absurd (show iv M 6 14 = 0 from p1) c2
    | some u =>
    rw [hp] at h
    obtain ⟨b1, b2⟩ := p2 u hp
    refine t_copyAll (by omega) hS (by decide) (by decide) (by decide) b1.sa b2 (fun M2 f2 a2 l2 => ⟨rfl, f2.shp hS, ?_⟩)
    have s2 := f2.shp hS
    have sb : SB M2 33 u := a2.sb (fun _ _ => smS_n)
    refine x_clear (K := W.K) (P := W.P) (by omega) s2 (hX.now.2.2.fr f2 (fun r _ _ => by omega)) (fun M3 f3 p3 => ⟨rfl, f3.shp s2, ?_⟩)
    have sb3 : SB M3 33 u := sb.fr f3 (fun k hk _ => by omega)
    rw [sb3.w0 (i := 9) ⟨by omega, by omega⟩]
    obtain ⟨q1, q2⟩ := hX.setA (a := (u, 0, W.P)) hok ((f2.mono (by intro r hr; unfold Ac; omega)).trans (f3.mono (by intro r hr; unfold Ac; omega))) (by rw [f3.eiv (by omega), f2.eiv (by omega)]) sb3 (l2.fr f3 (by omega)) p3
    exact h M3 q2 q1
  · cases hp : W.pc with
    | none => exact none_ hp
    | some u =>
    rw [hp] at p1
    exact absurd (show iv M 6 14 = 1 from p1) (by omega)
end XActs
