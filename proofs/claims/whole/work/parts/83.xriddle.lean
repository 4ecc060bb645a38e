/-! THE RIDDLE: of the class -/
def Rt (M : jM) (r : Nat) : Prop := (392 ≤ r ∧ r ≤ 398) ∨ r = 400 ∨ r = 401 ∨ Wp M r
def Rs (M : jM) (r : Nat) : Prop := (392 ≤ r ∧ r ≤ 398) ∨ (400 ≤ r ∧ r ≤ 403) ∨ r = 387 ∨ Wp M r
def Rd (M : jM) (r : Nat) : Prop := (387 ≤ r ∧ r ≤ 404) ∨ Wp M r
theorem Rt_x {M : jM} {r : Nat} (h : Rt M r) : Xc M r := by unfold Rt Wp at h; unfold Xc Wp; omega
theorem Rs_x {M : jM} {r : Nat} (h : Rs M r) : Xc M r := by unfold Rs Wp at h; unfold Xc Wp; omega
theorem Rd_x {M : jM} {r : Nat} (h : Rd M r) : Xc M r := by unfold Rd Wp at h; unfold Xc Wp; omega
theorem Rt_s {M : jM} {r : Nat} (h : Rt M r) : Rs M r := by unfold Rt Wp at h; unfold Rs Wp; omega
theorem Rs_d {M : jM} {r : Nat} (h : Rs M r) : Rd M r := by unfold Rs Wp at h; unfold Rd Wp; omega
/-- the masses and the weights of those told, for n hours -/
def T4 (M : jM) (I : jI) (t : jS) (n : Nat) : Prop := (∀ u i, u < n → i < 32 → iv M 400 (32 * u + i) = massS I (tqS I t u) i) ∧ (∀ u p, u < n → p < I.np → lg M 401 (8 * u + p) = wtS (pW I (tqS I t u)) p)
theorem T4.fr {P : Nat → Prop} {M M' : jM} {I : jI} {t : jS} {n : Nat} (h : T4 M I t n) (hf : Fr P M M') (h0 : ¬ P 400) (h1 : ¬ P 401) : T4 M' I t n := by
  unfold T4
  rw [hf.eiv h0, hf.elg h1]
  exact h
def moX (p k g u : Nat) : Nat := ((p * 3 + k) * 9 + (g - 1)) * 9 + u
def moT (I : jI) (t : jS) (p k g : Nat) : Nat → Int
  | 0 => 1
  | u + 1 => if moM I t p k g u = 0 then 0 else 1
theorem moT_0 {I : jI} {t : jS} {p k g : Nat} : ∀ {u : Nat}, moT I t p k g u = 0 → moM I t p k g u = 0
  | 0, q => absurd q (by simp [moT])
  | u + 1, q => by
    by_cases z : moM I t p k g u = 0
    · exact moM_n z
    · simp [moT, z] at q
theorem moT_1 {I : jI} {t : jS} {p k g : Nat} : ∀ {u : Nat}, ¬ moT I t p k g u = 0 → u = 0 ∨ moM I t p k g (u - 1) ≠ 0
  | 0, _ => Or.inl rfl
  | u + 1, q => Or.inr (fun z => q (by simp only [moT]; exact if_pos z))
theorem trW_in {I : jI} {t : jS} {n c u p : Nat} (hI : WI I) (hw : WS n t) (hp : p < 8) : 0 ≤ trW I t c u p ∧ trW I t c u p ≤ 8858370048 := by
  unfold trW
  rw [wtS_pW, (tqS_w u).2.2, moS_o (f := 6) (Or.inr (Or.inr (by decide)))]
  have h6 := hw.2.2.1 p hp
  have := wtF_in (w := tqS I (moS t c) u 1) (m := massS I (tqS I (moS t c) u)) (p := (p : Int)) (s0 := 1000 * t 6 p) ⟨by omega, by omega⟩ 32 (by omega) (fun j hj => massS_in hI (by omega))
  omega
theorem cd_j {c : Nat} (hc : c < 10000) : jdiv (c : Int) 1000 = (cdP c : Nat) ∧ jrem (jdiv (c : Int) 100) 10 = (cdO c : Nat) ∧ jrem (jdiv (c : Int) 10) 10 = (cdK c : Nat) ∧ jrem (c : Int) 10 = (cdT c : Nat) := by
  unfold cdP cdO cdK cdT
  rw [jdiv_eq ⟨by omega, by omega⟩ ⟨by omega, by omega⟩, jdiv_eq ⟨by omega, by omega⟩ ⟨by omega, by omega⟩, jdiv_eq ⟨by omega, by omega⟩ ⟨by omega, by omega⟩, jrem_eq ⟨by omega, by omega⟩ ⟨by omega, by omega⟩, jrem_eq ⟨by omega, by omega⟩ ⟨by omega, by omega⟩, jrem_eq ⟨by omega, by omega⟩ ⟨by omega, by omega⟩]
  omega
section RiddleX
variable {d : Nat} {M : jM} {Q : Option jV → jM → Prop} {I : jI} {t : jS} {nn : Nat} {nt : Nat → Nat → Int}
theorem ix32 {i j : Nat} (hi : i < 1000) (hj : j < 1000) : w32 (w32 ((i : Int) * 32) + (j : Int)) = ((32 * i + j : Nat) : Int) := by
  rw [w32_i (z := (i : Int) * 32) (by omega) (by omega), w32_i (by omega) (by omega)]
  omega
theorem ix8 {i j : Nat} (hi : i < 1000) (hj : j < 1000) : w32 (w32 ((i : Int) * 8) + (j : Int)) = ((8 * i + j : Nat) : Int) := by
  rw [w32_i (z := (i : Int) * 8) (by omega) (by omega), w32_i (by omega) (by omega)]
  omega
theorem x_told (hd : 10 ≤ d) (hS : Shp M) (hA : IA M I) (hI : WI I) (ht : SB M 41 t) (hw : WS I.np t) (h9 : t 0 9 = 0) (h : ∀ M', Fr (Rt M) M M' → T4 M' I t 9 → Q none M') : Call d mX6_weighTold [vR 387, vR 29, vR 41] M Q := by
  obtain ⟨e, rfl⟩ := dd (d := d) (by omega)
  have hn8 := hI.1
  refine vr_told (by omega) hS (t_copyMinds (by omega) hS (by decide) (by decide) (by decide) ht.sa (fun M1 f1 a1 => ⟨rfl, f1.shp hS, ?_⟩))
  have b1 : SB M1 392 t := a1.sb (fun f i hf => smS_n hf)
  have g1 : Fr (Rt M) M M1 := f1.mono (by intro r hr; unfold Sp at hr; unfold Rt; omega)
  refine up_to (R := fun i => ∀ M2 l4, Fr (Rt M) M M2 → SB M2 392 (tqS I t i) → T4 M2 I t i → Run (e + 1) mX6_weighTold 10 [some (vR 387), some (vR 29), some (vR 41), some (vI (i : Int)), l4] [] M2 Q) 9 ?_ ?_ M1 none g1 b1 ⟨fun u i hh => absurd hh (by omega), fun u p hh => absurd hh (by omega)⟩
  · intro M2 l4 f2 _ k2
    exact vr_told_10 (by omega) (f2.shp hS) ⟨fun _ => h M2 f2 k2, fun c => absurd (by decide) c⟩
  · intro i hi ih M2 l4 f2 b2 k2
    have s2 := f2.shp hS
    have hwi : WS I.np (tqS I t i) := tqS_ws hw h9 (by omega)
    have h9i : tqS I t i 0 9 < 20000 := by rw [(tqS_w i).2.1, h9]; omega
    refine vr_told_10 (by omega) s2 ⟨fun c => absurd c (by omega), fun _ => x_weigh (by omega) s2 (hA.xc f2 (fun r => Rt_x)) hI (by decide) b2 hwi (fun M3 f3 a3 => ⟨rfl, f3.shp s2, ?_⟩)⟩
    have e3 : rv M2 29 5 = rv M 29 5 := by rw [f2.erv]
    have g3 : Fr (Rt M) M M3 := f2.trans (f3.mono (fun r hr => by unfold Wp at hr; rw [e3] at hr; unfold Rt Wp; omega))
    refine up_to (R := fun j => ∀ M4, Fr (Rt M) M M4 → SA M4 392 (pW I (tqS I t i)) → T4 M4 I t i → (∀ j', j' < j → iv M4 400 (32 * i + j') = massS I (tqS I t i) j') → Run (e + 1) mX6_weighTold 27 [some (vR 387), some (vR 29), some (vR 41), some (vI (i : Int)), some (vI (j : Int))] [] M4 Q) 32 ?_ ?_ M3 g3 a3 (k2.fr f3 (by unfold Wp; omega) (by unfold Wp; omega)) (fun j' hj => absurd hj (by omega))
    · intro M4 f4 a4 k4 r4
      have s4 := f4.shp hS
      refine vr_told_27 (by omega) s4 ⟨fun _ => ?_, fun c => absurd (by decide) c⟩
      refine up_to (R := fun p => ∀ M5, Fr (Rt M) M M5 → SA M5 392 (pW I (tqS I t i)) → T4 M5 I t i → (∀ j', j' < 32 → iv M5 400 (32 * i + j') = massS I (tqS I t i) j') → (∀ p', p' < p → lg M5 401 (8 * i + p') = wtS (pW I (tqS I t i)) p') → Run (e + 1) mX6_weighTold 69 [some (vR 387), some (vR 29), some (vR 41), some (vI (i : Int)), some (vI (p : Int))] [] M5 Q) I.np ?_ ?_ M4 f4 a4 k4 r4 (fun p' hp => absurd hp (by omega))
      · intro M5 f5 a5 k5 r5 w5
        have s5 := f5.shp hS
        have A5 := hA.xc f5 (fun r => Rt_x)
        refine vr_told_69 (by omega) s5 ⟨fun _ => t_passHour (by omega) s5 (by decide) a5 (WS_pW hwi) (fun M6 f6 a6 => ⟨rfl, f6.shp s5, ?_⟩), fun c => absurd (by rw [A5.1]; omega) c⟩
        rw [w32s (by omega)]
        have k5' : T4 M5 I t (i + 1) := by
          refine ⟨fun u j hh hj => ?_, fun u p hh hp => ?_⟩
          · by_cases z : u = i
            · rw [z]; exact r5 j hj
            · exact k5.1 u j (by omega) hj
          · by_cases z : u = i
            · rw [z]; exact w5 p hp
            · exact k5.2 u p (by omega) hp
        exact ih M6 _ (f5.trans (f6.mono (by intro r hr; unfold Sp at hr; unfold Rt; omega))) a6.sb0 (k5'.fr f6 (by unfold Sp; omega) (by unfold Sp; omega))
      · intro p hp ih3 M5 f5 a5 k5 r5 w5
        have s5 := f5.shp hS
        have A5 := hA.xc f5 (fun r => Rt_x)
        refine vr_told_69 (by omega) s5 ⟨fun c => absurd c (by rw [A5.1]; omega), fun _ => t_weight (by omega) s5 (by decide) a5 (WS_pW hwi) (WM_pW hI) (by omega) ⟨_, rfl, s5, fun N hN sN => ?_⟩⟩
        rw [ix8 (by omega) (by omega)] at hN
        have gN : Fr (fun r => r = 401) M5 N := by rw [hN]; exact fr_ptl rfl
        have ei : iv N = iv M5 := by rw [hN]; exact iv_ptl
        rw [w32s (by omega)]
        refine ih3 N (f5.trans (gN.mono (by intro r hr; unfold Rt; omega))) (a5.fr gN (by intro k hk; omega)) ⟨fun u j hh hj => by rw [ei]; exact k5.1 u j hh hj, fun u p' hh hp' => ?_⟩ (fun j' hj' => by rw [ei]; exact r5 j' hj') (fun p' hp' => ?_)
        · rw [hN, lg_ptl, if_neg (by omega)]; exact k5.2 u p' hh hp'
        · rw [hN, lg_ptl]
          by_cases z : p' = p
          · rw [z, if_pos ⟨rfl, rfl, by omega⟩]
          · rw [if_neg (by omega)]; exact w5 p' (by omega)
    · intro j hj ih2 M4 f4 a4 k4 r4
      have s4 := f4.shp hS
      refine vr_told_27 (by omega) s4 ⟨fun c => absurd c (by omega), fun _ N hN sN => ?_⟩
      rw [ix32 (by omega) (by omega), atv_n (by omega : j < 32)] at hN
      have gN : Fr (fun r => r = 400) M4 N := by rw [hN]; exact fr_ptv rfl
      rw [w32s (by omega)]
      refine ih2 N (f4.trans (gN.mono (by intro r hr; unfold Rt; omega))) (a4.fr gN (by intro k hk; omega)) ⟨fun u j' hh hj' => ?_, fun u p hh hp => by rw [gN.elg (by decide)]; exact k4.2 u p hh hp⟩ (fun j' hj' => ?_)
      · rw [hN, iv_ptv, if_neg (by omega)]; exact k4.1 u j' hh hj'
      · rw [hN, iv_ptv]
        by_cases z : j' = j
        · rw [z, if_pos ⟨rfl, rfl, by omega⟩]
          exact a4 5 j (in32 ⟨by decide, by decide⟩ hj)
        · rw [if_neg (by omega)]; exact r4 j' (by omega)
theorem x_lookUp {ag wi : Int} {ho : Nat} (hd : 2 ≤ d) (hS : Shp M) (hh : ho < 1000000) (h : ∀ M', Fr (fun r => r = 32) M M' → iv M' 32 2 = ag → iv M' 32 4 = wi → iv M' 32 5 = ((ho : Nat) : Int) % 24 → Q none M') : Call d mX1_lookUp [vR 29, vI ag, vI wi, vI (ho : Int)] M Q := by
  obtain ⟨e, rfl⟩ := dd (d := d) (by omega)
  refine vi_lookUp (by omega) hS (h _ (((fr_ptv (P := fun r => r = 32) rfl).pv rfl).pv rfl) ?_ ?_ ?_)
  · rw [iv_ptv, if_neg (by omega), iv_ptv, if_neg (by omega), iv_ptv, if_pos ⟨rfl, by decide, by decide⟩]
  · rw [iv_ptv, if_neg (by omega), iv_ptv, if_pos ⟨rfl, by decide, by decide⟩]
  · rw [iv_ptv, if_pos ⟨rfl, by decide, by decide⟩]
    exact jrem_eq ⟨by omega, by omega⟩ ⟨by decide, by decide⟩
theorem x_ix {p k g n : Nat} (hd : 5 ≤ d) (hS : Shp M) (hp : p < 8) (hk : k < 3) (hg : 1 ≤ g ∧ g ≤ 9) (hn : n < 9) (h : Q (some (vI ((moX p k g n : Nat) : Int))) M) : Call d mX6_moreIndex [vI (p : Int), vI (k : Int), vI (g : Int), vI (n : Int)] M Q := by
  obtain ⟨e, rfl⟩ := dd (d := d) (by omega)
  refine vr_ix (by omega) hS (fun v hv => ?_)
  have e1 : v = (((p : Int) * 3 + k) * 9 + g) - 1 := by
    rw [hv, w32_i (z := (p : Int) * 3) (by omega) (by omega), w32_i (z := (p : Int) * 3 + k) (by omega) (by omega), w32_i (z := ((p : Int) * 3 + k) * 9) (by omega) (by omega), w32_i (z := ((p : Int) * 3 + k) * 9 + g) (by omega) (by omega), w32_i (by omega) (by omega)]
  have e2 : w32 (w32 (v * 9) + (n : Int)) = ((moX p k g n : Nat) : Int) := by
    rw [w32_i (z := v * 9) (by omega) (by omega), w32_i (by omega) (by omega)]
    unfold moX
    omega
  rw [e2]
  exact h
theorem x_poss {p k : Nat} (hd : 8 ≤ d) (hS : Shp M) (hA : IA M I) (hI : WI I) (hwi : 0 ≤ t 0 7 ∧ t 0 7 ≤ 9) (hp : p < 8) (hk : k < 3) (h : ∀ M', Fr (fun r => r = 402 ∨ Wp M r) M M' → (∀ g u, 1 ≤ g → g ≤ 9 → u < 9 → iv M' 402 (moX p k g u) = moM I t p k g u) → (∀ j, (j < 81 * (3 * p + k) ∨ 81 * (3 * p + k) + 81 ≤ j) → iv M' 402 j = iv M 402 j) → Q none M') : Call d mX6_weighPossible [vR 387, vR 29, vI (t 0 7), vI (p : Int), vI (k : Int)] M Q := by
  obtain ⟨e, rfl⟩ := dd (d := d) (by omega)
  refine vr_poss (by omega) hS ?_
  refine up_to (R := fun i => ∀ M1 l6 l7 l8, Fr (fun r => r = 402 ∨ Wp M r) M M1 → (∀ g u, 1 ≤ g → g ≤ i → u < 9 → iv M1 402 (moX p k g u) = moM I t p k g u) → (∀ j, (j < 81 * (3 * p + k) ∨ 81 * (3 * p + k) + 81 ≤ j) → iv M1 402 j = iv M 402 j) → Run (e + 1) mX6_weighPossible 3 [some (vR 387), some (vR 29), some (vI (t 0 7)), some (vI (p : Int)), some (vI (k : Int)), some (vI ((i + 1 : Nat) : Int)), l6, l7, l8] [] M1 Q) 9 ?_ ?_ M none none none Fr.refl (fun g u h1 h2 => absurd h2 (by omega)) (fun _ _ => rfl)
  · intro M1 l6 l7 l8 f1 r1 o1
    exact vr_poss_3 (by omega) (f1.shp hS) ⟨fun _ => h M1 f1 r1 o1, fun c => absurd (by decide) c⟩
  · intro i hi ih M1 l6 l7 l8 f1 r1 o1
    refine vr_poss_3 (by omega) (f1.shp hS) ⟨fun c => absurd c (by omega), fun _ => ?_⟩
    refine up_to (R := fun u => ∀ M2 l8, Fr (fun r => r = 402 ∨ Wp M r) M M2 → (∀ g u, 1 ≤ g → g ≤ i → u < 9 → iv M2 402 (moX p k g u) = moM I t p k g u) → (∀ u', u' < u → iv M2 402 (moX p k (i + 1) u') = moM I t p k (i + 1) u') → (∀ j, (j < 81 * (3 * p + k) ∨ 81 * (3 * p + k) + 81 ≤ j) → iv M2 402 j = iv M 402 j) → Run (e + 1) mX6_weighPossible 16 [some (vR 387), some (vR 29), some (vI (t 0 7)), some (vI (p : Int)), some (vI (k : Int)), some (vI ((i + 1 : Nat) : Int)), some (vI (moT I t p k (i + 1) u)), some (vI (u : Int)), l8] [] M2 Q) 9 ?_ ?_ M1 l8 f1 r1 (fun u' hu => absurd hu (by omega)) o1
    · intro M2 l8 f2 r2 n2 o2
      refine vr_poss_16 (by omega) (f2.shp hS) ⟨fun _ => ?_, fun c => absurd (by decide) c⟩
      rw [w32s (i := i + 1) (by omega)]
      refine ih M2 _ _ _ f2 (fun g u h1 h2 hu => ?_) o2
      by_cases z : g = i + 1
      · rw [z]; exact n2 u hu
      · exact r2 g u h1 (by omega) hu
    · intro u hu ih2 M2 l8 f2 r2 n2 o2
      have s2 := f2.shp hS
      refine vr_poss_16 (by omega) s2 ⟨fun c => absurd c (by omega), fun _ => x_lookUp (by omega) s2 (by omega) (fun M4 f4 q2 q4 q5 => ⟨rfl, f4.shp s2, ?_⟩)⟩
      have s4 := f4.shp s2
      have g4 : Fr (fun r => r = 402 ∨ Wp M r) M M4 := f2.trans (f4.mono (by intro r hr; unfold Wp; omega))
      have A4 : IA M4 I := hA.xc g4 (by intro r hr; unfold Wp at hr; unfold Xc Wp; omega)
      have e42 : iv M4 402 = iv M2 402 := f4.eiv (by decide)
      have st : ∀ M5 N, iv M5 402 = iv M2 402 → Fr (fun r => r = 402 ∨ Wp M r) M M5 → N = ptv M5 1944 402 ((moX p k (i + 1) u : Nat) : Int) (moM I t p k (i + 1) u) → Run (e + 1) mX6_weighPossible 16 [some (vR 387), some (vR 29), some (vI (t 0 7)), some (vI (p : Int)), some (vI (k : Int)), some (vI ((i + 1 : Nat) : Int)), some (vI (moT I t p k (i + 1) (u + 1))), some (vI ((u + 1 : Nat) : Int)), some (vI (moM I t p k (i + 1) u))] [] N Q := by
        intro M5 N e5 f5 hN
        refine ih2 N _ (by rw [hN]; exact f5.pv (Or.inl rfl)) (fun g v h1 h2 hv => ?_) (fun v hv => ?_) (fun j hj => ?_)
        · rw [hN, iv_ptv, if_neg (by unfold moX; omega), e5]
          exact r2 g v h1 h2 hv
        · rw [hN, iv_ptv]
          by_cases z : v = u
          · rw [z, if_pos ⟨rfl, rfl, by unfold moX; omega⟩]
          · rw [if_neg (by unfold moX; omega), e5]
            exact n2 v (by omega)
        · rw [hN, iv_ptv, if_neg (by unfold moX; omega), e5]
          exact o2 j hj
      refine ⟨fun c => ?_, fun c => ?_⟩
      · have m0 := moT_0 c
        have m1 : moT I t p k (i + 1) (u + 1) = 0 := by simp only [moT]; exact if_pos m0
        refine x_ix (by omega) s4 hp hk ⟨by omega, by omega⟩ hu ⟨_, rfl, s4, fun N hN sN => ?_⟩
        rw [w32s (by omega)]
        have := st M4 N e42 g4 (by rw [m0]; exact hN)
        rw [m0, m1] at this
        exact this
      · have m0 := moM_y (moT_1 c)
        refine i_massOf (g := (u : Int)) (wi := t 0 7) (ho := (u : Int)) (by omega) s4 A4 hI hp ⟨by omega, by omega⟩ ⟨by omega, by omega⟩ ⟨by omega, by omega⟩ hwi q2 q4 q5 (fun M5 f5 => ⟨_, rfl, f5.shp s4, ?_⟩)
        have s5 := f5.shp s4
        have e4 : rv M4 29 5 = rv M 29 5 := by rw [g4.erv]
        refine x_ix (by omega) s5 hp hk ⟨by omega, by omega⟩ hu ⟨_, rfl, s5, fun N hN sN => ?_⟩
        rw [w32s (by omega)]
        rw [← m0] at hN ⊢
        exact st M5 N (by rw [f5.eiv (by unfold Wp; omega)]; exact e42) (g4.trans (f5.mono (fun r hr => by unfold Wp at hr; rw [e4] at hr; unfold Wp; omega))) hN
theorem x_whom {c : Nat} (hd : 5 ≤ d) (hS : Shp M) (hc : c < 10000) (h : Q (some (vI ((cdO c : Nat) : Int))) M) : Call d mX6_whomOf [vI (c : Int)] M Q := by
  obtain ⟨e, rfl⟩ := dd (d := d) (by omega)
  refine vr_whom (by omega) hS ?_
  rw [(cd_j hc).2.1]
  exact h
theorem x_emptyB {a q : Nat} (hd : 2 ≤ d) (hS : Shp M) (ha : isSt a = true) (hs : SB M a t) (hq : q < 8) (h : Q (some (vI (fE (t 1) q))) M) : Call d mX7_emptyPlace [vR a, vI (q : Int)] M Q := by
  refine t_emptyPlace hd hS ha hs.sa hq ?_
  have e1 : smS M a t 1 = t 1 := funext (fun i => smS_n (by decide))
  rw [e1]
  exact h
theorem x_with {c p u : Nat} (hd : 6 ≤ d) (hS : Shp M) (hI : WI I) (ht : SB M 41 t) (hw : WS I.np t) (h9 : t 0 9 = 0) (hT : T4 M I t 9) (hc : fitOk I t c) (hM : ∀ u, u < 9 → iv M 402 (moX (cdP c) (cdK c) (cdT c) u) = moM I t (cdP c) (cdK c) (cdT c) u) (hp : p < I.np) (hu : u < 9) (h : Q (some (vL (trW I t c u p))) M) : Call d mX6_weightWith [vR 387, vR 41, vI (c : Int), vI (p : Int), vI (u : Int)] M Q := by
  obtain ⟨e, rfl⟩ := dd (d := d) (by omega)
  have hn8 := hI.1
  obtain ⟨c1, c2, c3, c4, c5, c6, c7⟩ := hc
  have hc8 : c < 8000 := by unfold cdP at c1; omega
  have hT9 : cdT c ≤ 9 := by unfold cdT; omega
  obtain ⟨j1, j2, j3, j4⟩ := cd_j (c := c) (by omega)
  refine vr_with (by omega) hS (x_whom (by omega) hS (by omega) ⟨_, rfl, hS, fun q => ?_, fun q => ?_⟩)
  · have hq : cdO c = p := by omega
    rw [j1, j3, j4]
    refine x_ix (by omega) hS (by omega) c4 ⟨c5, hT9⟩ hu ⟨_, rfl, hS, ?_⟩
    refine x_emptyB (by omega) hS (by decide) ht (by omega) ⟨_, rfl, hS, ?_⟩
    have hE := fE_in (t 1) (cdP c)
    have hx : moX (cdP c) (cdK c) (cdT c) u < 1944 := by unfold moX; omega
    have eJ : w32 (w32 (((cdP c : Nat) : Int) * 4) + fE (t 1) (cdP c)) = ((moJ t c : Nat) : Int) := by
      rw [w32_i (z := ((cdP c : Nat) : Int) * 4) (by omega) (by omega), w32_i (by omega) (by omega)]
      unfold moJ
      omega
    have h6 := hw.2.2.1 p (by omega)
    have e6 : w64 (1000 * atv M 8 47 (p : Int)) = wwF t (moJ t c) (massS I (tqS I t u)) (moM I t (cdP c) (cdK c) (cdT c) u) p 0 := by
      rw [atv_n (by omega : p < 8), ht.w6 (by omega : p < 8), w64_i (by omega) (by omega)]
      rfl
    rw [eJ, e6, atv_n hx, hM u hu]
    have hmo := moM_in (I := I) (t := t) (p := cdP c) (k := cdK c) (g := cdT c) hI (by omega) u
    have hb : ∀ i, i ≤ 32 → 0 ≤ wwF t (moJ t c) (massS I (tqS I t u)) (moM I t (cdP c) (cdK c) (cdT c) u) p i ∧ wwF t (moJ t c) (massS I (tqS I t u)) (moM I t (cdP c) (cdK c) (cdT c) u) p i ≤ 268435456 * ((i : Int) + 1) := by
      intro i hi
      rw [wwF_eq hI hw c7 h9 (by omega) hq (by omega) i hi]
      exact wtF_in ⟨by omega, by omega⟩ i hi (fun j hj => massS_in hI (by omega))
    refine up_to (R := fun i => Run (e + 1) mX6_weightWith 88 [some (vR 387), some (vR 41), some (vI (c : Int)), some (vI (p : Int)), some (vI (u : Int)), some (vI ((cdP c : Nat) : Int)), some (vI (moM I t (cdP c) (cdK c) (cdT c) u)), some (vI ((moJ t c : Nat) : Int)), some (vL (wwF t (moJ t c) (massS I (tqS I t u)) (moM I t (cdP c) (cdK c) (cdT c) u) p i)), none, some (vI (i : Int))] [] M Q) 32 ?_ ?_
    · refine vr_with_88 (by omega) hS ⟨fun _ => ?_, fun z => absurd (by decide) z⟩
      rw [← trW_sum hI hw c7 h9 (by omega) hq (by omega)]
      exact h
    · intro i hi ih
      have hbi := hb i (by omega)
      have em : massS I (tqS I t u) i = massS I (tqS I t u) i := rfl
      have hmi := massS_in (I := I) (s := tqS I t u) hI hi
      simp only [wwF] at ih
      refine vr_with_88 (by omega) hS ⟨fun z => absurd z (by omega), fun _ => ⟨fun y => ⟨fun x => ?_, fun x => ?_⟩, fun y => ?_⟩⟩
      · rw [atv_n hi, ht.w1 (f := 1) ⟨by decide, by decide⟩ hi] at x
        rw [if_neg (by omega), if_neg x] at ih
        rw [w32s (by omega)]
        exact ih
      · rw [atv_n hi, ht.w1 (f := 1) ⟨by decide, by decide⟩ hi, Classical.not_not] at x
        rw [if_neg (by omega), if_pos x] at ih
        rw [ix32 (by omega) (by omega), atv_n (by omega : 32 * u + i < 288), hT.1 u i hu hi, w64_i (by omega) (by omega), w32s (by omega)]
        refine ⟨⟨by omega, by omega⟩, fun v hv => ?_⟩
        rw [hv]
        exact ih
      · rw [if_pos (by omega)] at ih
        rw [w64_i (by omega) (by omega), w32s (by omega)]
        exact ⟨⟨by omega, by omega⟩, ih⟩
  · rw [ix8 (by omega) (by omega)]
    have : atl M 72 401 ((8 * u + p : Nat) : Int) = trW I t c u p := by
      unfold atl
      rw [if_pos ⟨by omega, by omega⟩, Int.toNat_natCast, hT.2 u p hu hp, trW_plain c7 (by omega)]
    rw [this]
    exact h
/-- what was seen -/
def SR (M : jM) (n nn : Nat) (nt : Nat → Nat → Int) : Prop := iv M 387 4 = (nn : Int) ∧ (∀ k, k < nn → iv M 388 k = nt k 0 ∧ iv M 389 k = nt k 1 ∧ iv M 390 k = nt k 2 ∧ iv M 391 k = nt k 3) ∧ nn ≤ 10 ∧ ∀ k, k < nn → 0 ≤ nt k 0 ∧ nt k 0 < (n : Int) ∧ 0 ≤ nt k 1 ∧ nt k 1 ≤ 8 ∧ 0 ≤ nt k 2 ∧ nt k 2 ≤ 9999 ∧ (nt k 3 = 0 ∨ nt k 3 = 1)
theorem x_seen {c : Nat} (hd : 8 ≤ d) (hS : Shp M) (hI : WI I) (ht : SB M 41 t) (hw : WS I.np t) (h9 : t 0 9 = 0) (hT : T4 M I t 9) (hR : SR M I.np nn nt) (hc : fitOk I t c) (hM : ∀ u, u < 9 → iv M 402 (moX (cdP c) (cdK c) (cdT c) u) = moM I t (cdP c) (cdK c) (cdT c) u) (hy : fitP I t nn nt c → Q (some (vI 1)) M) (hn : ¬ fitP I t nn nt c → Q (some (vI 0)) M) : Call d mX6_isAsSeen [vR 387, vR 41, vI (c : Int)] M Q := by
  obtain ⟨e, rfl⟩ := dd (d := d) (by omega)
  have hn8 := hI.1
  obtain ⟨r1, r2, r3, r4⟩ := hR
  refine vr_seen (by omega) hS ?_
  refine up_to (R := fun k => ∀ l4 l5 l6, (∀ k', k' < k → (1000 * nt k' 2 ≤ trW I t c (nt k' 1).toNat (nt k' 0).toNat ↔ nt k' 3 = 1)) → Run (e + 1) mX6_isAsSeen 2 [some (vR 387), some (vR 41), some (vI (c : Int)), some (vI (k : Int)), l4, l5, l6] [] M Q) nn ?_ ?_ none none none (fun k' hk => absurd hk (by omega))
  · intro l4 l5 l6 hk
    exact vr_seen_2 (by omega) hS ⟨fun _ => hy ⟨hc, hk⟩, fun z => absurd (by rw [r1]; omega) z⟩
  · intro k hk ih l4 l5 l6 hp
    obtain ⟨a1, a2, a3, a4⟩ := r2 k hk
    obtain ⟨b1, b2, b3, b4, b5, b6, b7⟩ := r4 k hk
    obtain ⟨p, ep⟩ : ∃ p : Nat, nt k 0 = (p : Int) := ⟨(nt k 0).toNat, by omega⟩
    obtain ⟨u, eu⟩ : ∃ u : Nat, nt k 1 = (u : Int) := ⟨(nt k 1).toNat, by omega⟩
    have hW := trW_in (I := I) (t := t) (c := c) (u := u) (p := p) hI hw (by omega)
    refine vr_seen_2 (by omega) hS ⟨fun z => absurd z (by rw [r1]; omega), fun _ => ?_⟩
    rw [atv_n (by omega : k < 10), atv_n (by omega : k < 10), a1, a2, ep, eu]
    refine x_with (by omega) hS hI ht hw h9 hT hc hM (by omega) (by omega) ⟨_, rfl, hS, ?_⟩
    have e3 : atv M 10 390 (k : Int) = nt k 2 := by rw [atv_n (by omega : k < 10), a3]
    have e4 : atv M 10 391 (k : Int) = nt k 3 := by rw [atv_n (by omega : k < 10), a4]
    have ek : (1000 * nt k 2 ≤ trW I t c (nt k 1).toNat (nt k 0).toNat ↔ nt k 3 = 1) ↔ (1000 * nt k 2 ≤ trW I t c u p ↔ nt k 3 = 1) := by rw [ep, eu, Int.toNat_natCast, Int.toNat_natCast]
    rw [e3, e4, w64_i (by omega) (by omega), w32s (by omega)]
    have eL : (if jcmp (trW I t c u p) (1000 * nt k 2) < 0 then (0 : Int) else 1) = (if 1000 * nt k 2 ≤ trW I t c u p then 1 else 0) := by
      by_cases z : 1000 * nt k 2 ≤ trW I t c u p
      · rw [if_pos z, if_neg (fun y => by rw [jcmp_neg] at y; omega)]
      · rw [if_neg z, if_pos (jcmp_neg.mpr (by omega))]
    have eR : (if nt k 3 ≠ 1 then (0 : Int) else 1) = (if nt k 3 = 1 then 1 else 0) := by
      by_cases z : nt k 3 = 1
      · rw [if_neg (fun y => y z), if_pos z]
      · rw [if_pos z, if_neg z]
    have eq : (if 1000 * nt k 2 ≤ trW I t c u p then (1 : Int) else 0) = (if nt k 3 = 1 then 1 else 0) ↔ (1000 * nt k 2 ≤ trW I t c u p ↔ nt k 3 = 1) := by
      by_cases z1 : 1000 * nt k 2 ≤ trW I t c u p
      · by_cases z2 : nt k 3 = 1
        · rw [if_pos z1, if_pos z2]; exact ⟨fun _ => ⟨fun _ => z2, fun _ => z1⟩, fun _ => rfl⟩
        · rw [if_pos z1, if_neg z2]; exact ⟨fun y => absurd y (by decide), fun y => absurd (y.mp z1) z2⟩
      · by_cases z2 : nt k 3 = 1
        · rw [if_neg z1, if_pos z2]; exact ⟨fun y => absurd y (by decide), fun y => absurd (y.mpr z2) z1⟩
        · rw [if_neg z1, if_neg z2]; exact ⟨fun _ => ⟨fun y => absurd y z1, fun y => absurd y z2⟩, fun _ => rfl⟩
    rw [eL, eR]
    refine ⟨fun y => ?_, fun y => ?_⟩
    · refine ih _ _ _ (fun k' hk' => ?_)
      by_cases z : k' = k
      · rw [z]; exact ek.mpr (eq.mp y)
      · exact hp k' (by omega)
    · exact hn (fun z => y (eq.mpr (ek.mp (z.2 k hk))))
/-- those that fit, up to a code -/
def FT (M : jM) (I : jI) (t : jS) (nn : Nat) (nt : Nat → Nat → Int) (a : Nat) : Prop := iv M 387 11 = (fitN I t nn nt a : Nat) ∧ ∀ c, c < a → fitP I t nn nt c → iv M 403 (fitN I t nn nt c) = (c : Int)
theorem FT.skip {a : Nat} (h : FT M I t nn nt a) (n : Nat) (hs : ∀ c, a ≤ c → c < a + n → ¬ fitP I t nn nt c) : FT M I t nn nt (a + n) := by
  refine ⟨by rw [fitN_skip n hs]; exact h.1, fun c hc hf => ?_⟩
  by_cases z : c < a
  · exact h.2 c z hf
  · exact absurd hf (hs c (by omega) hc)
theorem FT.fr {P : Nat → Prop} {M' : jM} {a : Nat} (h : FT M I t nn nt a) (hf : Fr P M M') (h0 : ¬ P 387) (h1 : ¬ P 403) : FT M' I t nn nt a := by
  unfold FT
  rw [hf.eiv h0, hf.eiv h1]
  exact h
theorem FT.add {M' : jM} {a : Nat} (h : FT M I t nn nt a) (hf : fitP I t nn nt a) (h1 : iv M' 387 11 = iv M 387 11 + 1) (h2 : ∀ i : Nat, iv M' 403 i = if i = fitN I t nn nt a then (a : Int) else iv M 403 i) : FT M' I t nn nt (a + 1) := by
  refine ⟨by rw [h1, h.1, fitN_y hf]; omega, fun c hc hfc => ?_⟩
  rw [h2]
  by_cases z : c = a
  · rw [z, if_pos rfl]
  · have := fitN_lt (n := a) hfc (by omega)
    rw [if_neg (by omega)]
    exact h.2 c (by omega) hfc
theorem x_collect {p q : Nat} (hd : 9 ≤ d) (hS : Shp M) (hA : IA M I) (hI : WI I) (ht : SB M 41 t) (hw : WS I.np t) (h9 : t 0 9 = 0) (hT : T4 M I t 9) (hR : SR M I.np nn nt) (hp : p < I.np) (hq : q < I.np) (hpq : p ≠ q) (hE : fE (t 1) p ≠ -1) (hM : ∀ k g u, k < 3 → fG (I.mi p) (k : Nat) = 1 → 1 ≤ g → g ≤ 9 → u < 9 → iv M 402 (moX p k g u) = moM I t p k g u) (hF : FT M I t nn nt (1000 * p + 100 * q)) (h : ∀ M', Fr (fun r => r = 387 ∨ r = 403) M M' → iv M' 387 4 = iv M 387 4 → FT M' I t nn nt (1000 * p + 100 * (q + 1)) → Q none M') : Call d mX6_collect [vR 387, vR 29, vR 41, vI (p : Int), vI (q : Int)] M Q := by
  obtain ⟨e, rfl⟩ := dd (d := d) (by omega)
  have hn8 := hI.1
  have hcx : ∀ M', Fr (fun r => r = 387 ∨ r = 403) M M' → Fr (fun r => 387 ≤ r ∧ r ≤ 404) M M' := fun M' hf => hf.mono (by intro r hr; omega)
  refine vr_collect (by omega) hS ?_
  refine up_to (R := fun k => ∀ M1 l6 l7, Fr (fun r => r = 387 ∨ r = 403) M M1 → iv M1 387 4 = iv M 387 4 → FT M1 I t nn nt (1000 * p + 100 * q + 10 * k) → Run (e + 1) mX6_collect 3 [some (vR 387), some (vR 29), some (vR 41), some (vI (p : Int)), some (vI (q : Int)), some (vI (k : Int)), l6, l7] [] M1 Q) 3 ?_ ?_ M none none Fr.refl rfl hF
  · intro M1 l6 l7 f1 e1 k1
    refine vr_collect_3 (by omega) (f1.shp hS) ⟨fun _ => h M1 f1 e1 ?_, fun z => absurd (by decide) z⟩
    have := k1.skip 70 (fun c h1 h2 => by
      obtain ⟨x, rfl⟩ : ∃ x, c = 1000 * p + 100 * q + x := ⟨c - (1000 * p + 100 * q), by omega⟩
      exact fit_no (by omega) (by omega) (by omega))
    rw [show 1000 * p + 100 * (q + 1) = 1000 * p + 100 * q + 10 * 3 + 70 by omega]
    exact this
  · intro k hk ih M1 l6 l7 f1 e1 k1
    refine vr_collect_3 (by omega) (f1.shp hS) ⟨fun z => absurd z (by omega), fun _ => ?_⟩
    have k1' : FT M1 I t nn nt (1000 * p + 100 * q + (10 * k + 0 + 1)) := by
      have := k1.skip 1 (fun c h1 h2 => by
        obtain ⟨x, rfl⟩ : ∃ x, c = 1000 * p + 100 * q + x := ⟨c - (1000 * p + 100 * q), by omega⟩
        exact fit_no (by omega) (by omega) (by omega))
      rw [show 1000 * p + 100 * q + (10 * k + 0 + 1) = 1000 * p + 100 * q + 10 * k + 1 by omega]
      exact this
    refine up_to (R := fun g => ∀ M2 l7, Fr (fun r => r = 387 ∨ r = 403) M M2 → iv M2 387 4 = iv M 387 4 → FT M2 I t nn nt (1000 * p + 100 * q + (10 * k + g + 1)) → Run (e + 1) mX6_collect 12 [some (vR 387), some (vR 29), some (vR 41), some (vI (p : Int)), some (vI (q : Int)), some (vI (k : Int)), some (vI ((g + 1 : Nat) : Int)), l7] [] M2 Q) 9 ?_ ?_ M1 l7 f1 e1 k1'
    · intro M2 l7 f2 e2 k2
      refine vr_collect_12 (by omega) (f2.shp hS) ⟨fun _ => ?_, fun z => absurd (by decide) z⟩
      rw [w32s (by omega)]
      refine ih M2 _ _ f2 e2 ?_
      rw [show 1000 * p + 100 * q + 10 * (k + 1) = 1000 * p + 100 * q + (10 * k + 9 + 1) by omega]
      exact k2
    · intro g hg ih2 M2 l7 f2 e2 k2
      have s2 := f2.shp hS
      have A2 : IA M2 I := hA.xc f2 (by intro r hr; unfold Xc; omega)
      have t2 : SB M2 41 t := ht.fr f2 (by intro k hk _; omega)
      refine vr_collect_12 (by omega) s2 ⟨fun z => absurd z (by omega), fun _ => ?_⟩
      rw [atv_n (by omega : p < 8), A2.2.2.2.2.1 p (by omega)]
      refine ⟨fun z => ?_, fun z v hv => ?_⟩
      · rw [w32s (by omega)]
        refine ih M2 _ _ f2 e2 ?_
        have := k2.skip (9 - g) (fun c h1 h2 => by
          obtain ⟨x, rfl⟩ : ∃ x, c = 1000 * p + 100 * q + x := ⟨c - (1000 * p + 100 * q), by omega⟩
          refine fit_no (by omega) (by omega) (Or.inr (Or.inr (Or.inr (Or.inr (Or.inr (Or.inl ?_))))))
          rw [show x / 10 = k by omega, z]
          decide)
        rw [show 1000 * p + 100 * q + 10 * (k + 1) = 1000 * p + 100 * q + (10 * k + g + 1) + (9 - g) by omega]
        exact this
      · have hfg : fG (I.mi p) (k : Nat) = 1 := by rcases fG_01 (mi := I.mi p) (k := ((k : Nat) : Int)) with y | y; · exact absurd y z
                                                   · exact y
        have ev : w32 (v + ((g + 1 : Nat) : Int)) = ((1000 * p + 100 * q + (10 * k + g + 1) : Nat) : Int) := by
          rw [hv, w32_i (z := 1000 * (p : Int)) (by omega) (by omega), w32_i (z := 100 * (q : Int)) (by omega) (by omega), w32_i (z := 10 * (k : Int)) (by omega) (by omega), w32_i (z := 1000 * (p : Int) + 100 * (q : Int)) (by omega) (by omega), w32_i (z := 1000 * (p : Int) + 100 * (q : Int) + 10 * (k : Int)) (by omega) (by omega), w32_i (by omega) (by omega)]
          omega
        obtain ⟨d1, d2, d3, d4⟩ := cd_of (p := p) (q := q) (x := 10 * k + g + 1) (by omega) (by omega)
        have d3' : (10 * k + g + 1) / 10 = k := by omega
        have d4' : (10 * k + g + 1) % 10 = g + 1 := by omega
        rw [d3'] at d3
        rw [d4'] at d4
        have hok : fitOk I t (1000 * p + 100 * q + (10 * k + g + 1)) := by
          unfold fitOk
          rw [d1, d2, d3, d4]
          exact ⟨hp, hq, hpq, hk, by omega, hfg, hE⟩
        have T2 : T4 M2 I t 9 := hT.fr f2 (by omega) (by omega)
        have R2 : SR M2 I.np nn nt := by
          unfold SR
          rw [e2, f2.eiv (by omega : ¬ (388 = 387 ∨ 388 = 403)), f2.eiv (by omega : ¬ (389 = 387 ∨ 389 = 403)), f2.eiv (by omega : ¬ (390 = 387 ∨ 390 = 403)), f2.eiv (by omega : ¬ (391 = 387 ∨ 391 = 403))]
          exact hR
        rw [ev]
        refine x_seen (by omega) s2 hI t2 hw h9 T2 R2 hok (fun u hu => ?_) (fun hf => ?_) (fun hf => ?_)
        · rw [d1, d3, d4, f2.eiv (by omega)]
          exact hM k (g + 1) u hk hfg (by omega) (by omega) hu
        · refine ⟨_, rfl, s2, fun y => absurd y (by decide), fun _ N hN sN N2 hN2 sN2 => ?_⟩
          have hb : fitN I t nn nt (1000 * p + 100 * q + (10 * k + g + 1)) < 1512 := by
            have h1 := fitN_lt (n := 1000 * I.np) hf (by omega)
            have h2 := fitN_all (I := I) (t := t) (nn := nn) (nt := nt) hn8
            omega
          rw [k2.1] at hN
          have eN : iv N 387 = iv M2 387 := by rw [hN]; exact (fr_ptv (P := fun r => r = 403) rfl).eiv (by decide)
          rw [eN, k2.1, w32_i (by omega) (by omega)] at hN2
          rw [w32s (i := g + 1) (by omega)]
          refine ih2 N2 _ ?_ ?_ ?_
          · rw [hN2, hN]; exact (f2.pv (Or.inr rfl)).ps (Or.inl rfl)
          · rw [hN2, iv_si, if_neg (by omega), eN, e2]
          · rw [show 1000 * p + 100 * q + (10 * k + (g + 1) + 1) = 1000 * p + 100 * q + (10 * k + g + 1) + 1 by omega]
            refine k2.add hf ?_ (fun i => ?_)
            · rw [hN2, iv_si, if_pos ⟨rfl, rfl⟩, k2.1]
            · rw [hN2, iv_si, if_neg (by omega), hN, iv_ptv]
              by_cases z2 : i = fitN I t nn nt (1000 * p + 100 * q + (10 * k + g + 1))
              · rw [if_pos z2, if_pos ⟨rfl, by omega, by omega⟩]
              · rw [if_neg z2, if_neg (by omega)]
        · refine ⟨_, rfl, s2, fun _ => ?_, fun y => absurd rfl y⟩
          rw [w32s (i := g + 1) (by omega)]
          refine ih2 M2 _ f2 e2 ?_
          have := k2.skip 1 (fun c h1 h2 => by
            have : c = 1000 * p + 100 * q + (10 * k + g + 1) := by omega
            rw [this]; exact hf)
          rw [show 1000 * p + 100 * q + (10 * k + (g + 1) + 1) = 1000 * p + 100 * q + (10 * k + g + 1) + 1 by omega]
          exact this
end RiddleX
