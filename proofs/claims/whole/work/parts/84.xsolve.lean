/-! THE RIDDLE: of the class, solved and asked -/
theorem fit_no3 {I : jI} {t : jS} {nn : Nat} {nt : Nat → Nat → Int} {p c : Nat} (h1 : 1000 * p ≤ c) (h2 : c < 1000 * p + 1000) (h : fE (t 1) p = -1 ∨ 1000 * p + 100 * I.np ≤ c) : ¬ fitP I t nn nt c := by
  obtain ⟨q, x, hq, hx, rfl⟩ : ∃ q x, q < 10 ∧ x < 100 ∧ c = 1000 * p + 100 * q + x := ⟨(c - 1000 * p) / 100, (c - 1000 * p) % 100, by omega, by omega, by omega⟩
  rcases h with h | h
  · exact fit_no hq hx (Or.inr (Or.inr (Or.inr (Or.inr (Or.inr (Or.inr h))))))
  · exact fit_no hq hx (Or.inr (Or.inl (by omega)))
theorem trW_pos {I : jI} {t : jS} {n c u p : Nat} (hI : WI I) (hg : GS n t) (hp : p < n) : 0 < trW I t c u p := by
  unfold trW
  rw [wtS_pW, (tqS_w u).2.2, moS_o (f := 6) (Or.inr (Or.inr (by decide)))]
  have := hg.2.1 p hp
  exact wtF_pos (by omega) 32 (fun j hj => (massS_in hI hj).1)
theorem tqW_pos {I : jI} {t : jS} {n u p : Nat} (hI : WI I) (hg : GS n t) (hp : p < n) : 0 < wtS (pW I (tqS I t u)) p := by
  rw [wtS_pW, (tqS_w u).2.2]
  have := hg.2.1 p hp
  exact wtF_pos (by omega) 32 (fun j hj => (massS_in hI hj).1)
section RiddleY
variable {d : Nat} {M : jM} {Q : Option jV → jM → Prop} {I : jI} {t : jS} {nn : Nat} {nt : Nat → Nat → Int}
theorem SR.cg {M' : jM} {n : Nat} (h : SR M n nn nt) (h4 : iv M' 387 4 = iv M 387 4) (h8 : ∀ r, 388 ≤ r → r ≤ 391 → iv M' r = iv M r) : SR M' n nn nt := by
  unfold SR
  rw [h4, h8 388 (by omega) (by omega), h8 389 (by omega) (by omega), h8 390 (by omega) (by omega), h8 391 (by omega) (by omega)]
  exact h
theorem x_solve (hd : 12 ≤ d) (hS : Shp M) (hA : IA M I) (hI : WI I) (ht : SB M 41 t) (hw : WS I.np t) (h9 : t 0 9 = 0) (hR : SR M I.np nn nt) (hz : iv M 387 5 = 0 ∨ (iv M 387 5 = 1 ∧ RZ M I t nn nt)) (h : ∀ M', Fr (Rs M) M M' → iv M' 387 4 = iv M 387 4 → iv M' 387 5 = 1 → RZ M' I t nn nt → Q none M') : Call d mX6_solve [vR 387, vR 29, vR 41] M Q := by
  obtain ⟨e, rfl⟩ := dd (d := d) (by omega)
  have hn8 := hI.1
  refine vr_solve (by omega) hS ⟨fun c => ?_, fun c => ?_⟩
  · refine x_told (by omega) hS hA hI ht hw h9 (fun M3 f3 k3 => ⟨rfl, f3.shp hS, fun N hN sN => ?_⟩)
    have gN : Fr (fun r => r = 387) M3 N := by rw [hN]; exact fr_si rfl
    have g3 : Fr (Rs M) M N := (f3.mono (fun r => Rt_s)).trans (gN.mono (by intro r hr; unfold Rs; omega))
    have fN : FT N I t nn nt 0 := ⟨by rw [hN, iv_si, if_pos ⟨rfl, rfl⟩]; rfl, fun c hc => absurd hc (Nat.not_lt_zero _)⟩
    have e4 : iv N 387 4 = iv M 387 4 := by rw [hN, iv_si, if_neg (by omega), f3.eiv (by unfold Rt Wp; omega)]
    refine up_to (R := fun p => ∀ M4 l4, Fr (Rs M) M M4 → iv M4 387 4 = iv M 387 4 → T4 M4 I t 9 → (∀ p' k g u, p' < p → fE (t 1) p' ≠ -1 → k < 3 → fG (I.mi p') (k : Nat) = 1 → 1 ≤ g → g ≤ 9 → u < 9 → iv M4 402 (moX p' k g u) = moM I t p' k g u) → FT M4 I t nn nt (1000 * p) → Run (e + 1) mX6_solve 21 [some (vR 387), some (vR 29), some (vR 41), some (vI (p : Int)), l4] [] M4 Q) I.np ?_ ?_ N none g3 e4 (k3.fr gN (by decide) (by decide)) (fun p' _ _ _ hp => absurd hp (Nat.not_lt_zero _)) fN
    · intro M4 l4 f4 e4 k4 r4 t4
      have s4 := f4.shp hS
      have A4 := hA.xc f4 (fun r => Rs_x)
      refine vr_solve_21 (by omega) s4 ⟨fun _ N2 hN2 _ => ?_, fun z => absurd (by rw [A4.1]; omega) z⟩
      have gN2 : Fr (fun r => r = 387) M4 N2 := by rw [hN2]; exact fr_si rfl
      refine h N2 (f4.trans (gN2.mono (by intro r hr; unfold Rs; omega))) (by rw [hN2, iv_si, if_neg (by omega)]; exact e4) (by rw [hN2, iv_si, if_pos ⟨rfl, rfl⟩]) ?_
      have k5 : T4 N2 I t 9 := k4.fr gN2 (by decide) (by decide)
      refine ⟨k5.1, k5.2, fun p k g u hp hE hk hf h1 h2 hu => ?_, ?_, fitN_all hn8, fun c hc hf => ?_⟩
      · rw [gN2.eiv (by decide)]; exact r4 p k g u hp hE hk hf h1 h2 hu
      · rw [hN2, iv_si, if_neg (by omega)]; exact t4.1
      · rw [gN2.eiv (by decide)]; exact t4.2 c hc hf
    · intro p hp ih M4 l4 f4 e4 k4 r4 t4
      have s4 := f4.shp hS
      have A4 := hA.xc f4 (fun r => Rs_x)
      refine vr_solve_21 (by omega) s4 ⟨fun z => absurd z (by rw [A4.1]; omega), fun _ => x_emptyB (by omega) s4 (by decide) (ht.fr f4 (by intro k hk _; unfold Rs Wp; omega)) (by omega) ⟨_, rfl, s4, fun hE => ?_, fun hE => ?_⟩⟩
      · refine up_to (R := fun k => ∀ M5, Fr (Rs M) M M5 → iv M5 387 4 = iv M 387 4 → T4 M5 I t 9 → (∀ p' k g u, p' < p → fE (t 1) p' ≠ -1 → k < 3 → fG (I.mi p') (k : Nat) = 1 → 1 ≤ g → g ≤ 9 → u < 9 → iv M5 402 (moX p' k g u) = moM I t p' k g u) → (∀ k' g u, k' < k → fG (I.mi p) (k' : Nat) = 1 → 1 ≤ g → g ≤ 9 → u < 9 → iv M5 402 (moX p k' g u) = moM I t p k' g u) → FT M5 I t nn nt (1000 * p) → Run (e + 1) mX6_solve 44 [some (vR 387), some (vR 29), some (vR 41), some (vI (p : Int)), some (vI (k : Int))] [] M5 Q) 3 ?_ ?_ M4 f4 e4 k4 r4 (fun k' _ _ hk => absurd hk (Nat.not_lt_zero _)) t4
        · intro M5 f5 e5 k5 r5 q5 t5
          have s5 := f5.shp hS
          refine vr_solve_44 (by omega) s5 ⟨fun _ => ?_, fun z => absurd (by decide) z⟩
          have r5' : ∀ p' k g u, p' < p + 1 → fE (t 1) p' ≠ -1 → k < 3 → fG (I.mi p') (k : Nat) = 1 → 1 ≤ g → g ≤ 9 → u < 9 → iv M5 402 (moX p' k g u) = moM I t p' k g u := by
            intro p' k g u hp' hE' hk hf h1 h2 hu
            by_cases z : p' = p
            · rw [z] at hf ⊢; exact q5 k g u hk hf h1 h2 hu
            · exact r5 p' k g u (by omega) hE' hk hf h1 h2 hu
          refine up_to (R := fun q => ∀ M6, Fr (Rs M) M M6 → iv M6 387 4 = iv M 387 4 → T4 M6 I t 9 → (∀ p' k g u, p' < p + 1 → fE (t 1) p' ≠ -1 → k < 3 → fG (I.mi p') (k : Nat) = 1 → 1 ≤ g → g ≤ 9 → u < 9 → iv M6 402 (moX p' k g u) = moM I t p' k g u) → FT M6 I t nn nt (1000 * p + 100 * q) → Run (e + 1) mX6_solve 81 [some (vR 387), some (vR 29), some (vR 41), some (vI (p : Int)), some (vI (q : Int))] [] M6 Q) I.np ?_ ?_ M5 f5 e5 k5 r5' t5
          · intro M6 f6 e6 k6 r6 t6
            have s6 := f6.shp hS
            have A6 := hA.xc f6 (fun r => Rs_x)
            refine vr_solve_81 (by omega) s6 ⟨fun _ => ?_, fun z => absurd (by rw [A6.1]; omega) z⟩
            rw [w32s (by omega)]
            refine ih M6 _ f6 e6 k6 r6 ?_
            have := t6.skip (1000 - 100 * I.np) (fun c h1 h2 => fit_no3 (p := p) (by omega) (by omega) (Or.inr (by omega)))
            rw [show 1000 * (p + 1) = 1000 * p + 100 * I.np + (1000 - 100 * I.np) by omega]
            exact this
          · intro q hq ih3 M6 f6 e6 k6 r6 t6
            have s6 := f6.shp hS
            have A6 := hA.xc f6 (fun r => Rs_x)
            refine vr_solve_81 (by omega) s6 ⟨fun z => absurd z (by rw [A6.1]; omega), fun _ => ⟨fun y => ?_, fun y => ?_⟩⟩
            · rw [w32s (by omega)]
              refine ih3 M6 f6 e6 k6 r6 ?_
              have := t6.skip 100 (fun c h1 h2 => by
                obtain ⟨x, rfl⟩ : ∃ x, c = 1000 * p + 100 * q + x := ⟨c - (1000 * p + 100 * q), by omega⟩
                exact fit_no (by omega) (by omega) (by omega))
              rw [show 1000 * p + 100 * (q + 1) = 1000 * p + 100 * q + 100 by omega]
              exact this
            · have R6 : SR M6 I.np nn nt := hR.cg e6 (fun r h1 h2 => f6.eiv (by unfold Rs Wp; omega))
              refine x_collect (by omega) s6 A6 hI (ht.fr f6 (by intro k hk _; unfold Rs Wp; omega)) hw h9 k6 R6 hp hq (by omega) hE (fun k g u hk hf h1 h2 hu => r6 p k g u (by omega) hE hk hf h1 h2 hu) t6 (fun M7 f7 e7 t7 => ⟨rfl, f7.shp s6, ?_⟩)
              rw [w32s (by omega)]
              exact ih3 M7 (f6.trans (f7.mono (by intro r hr; unfold Rs; omega))) (by rw [e7]; exact e6) (k6.fr f7 (by omega) (by omega)) (fun p' k g u hp' hE' hk hf h1 h2 hu => by rw [f7.eiv (by omega)]; exact r6 p' k g u hp' hE' hk hf h1 h2 hu) t7
        · intro k hk ih2 M5 f5 e5 k5 r5 q5 t5
          have s5 := f5.shp hS
          have A5 := hA.xc f5 (fun r => Rs_x)
          refine vr_solve_44 (by omega) s5 ⟨fun z => absurd z (by omega), fun _ => ?_⟩
          rw [atv_n (by omega : p < 8), A5.2.2.2.2.1 p (by omega)]
          refine ⟨fun z => ?_, fun z => ?_⟩
          · rw [w32s (by omega)]
            refine ih2 M5 f5 e5 k5 r5 (fun k' g u hk' hf h1 h2 hu => ?_) t5
            by_cases y : k' = k
            · rw [y, z] at hf; exact absurd hf (by decide)
            · exact q5 k' g u (by omega) hf h1 h2 hu
          · have b5 : SB M5 41 t := ht.fr f5 (by intro k hk _; unfold Rs Wp; omega)
            rw [b5.w0 (i := 7) ⟨by omega, by omega⟩]
            refine x_poss (by omega) s5 A5 hI hw.2.2.2.1 (by omega) hk (fun M6 f6 n6 o6 => ⟨rfl, f6.shp s5, ?_⟩)
            have e29 : rv M5 29 5 = rv M 29 5 := by rw [f5.erv]
            rw [w32s (by omega)]
            refine ih2 M6 (f5.trans (f6.mono (fun r hr => by unfold Wp at hr; rw [e29] at hr; unfold Rs Wp; omega))) (by rw [f6.eiv (by unfold Wp; omega)]; exact e5) (k5.fr f6 (by unfold Wp; omega) (by unfold Wp; omega)) (fun p' k' g u hp' hE' hk' hf h1 h2 hu => ?_) (fun k' g u hk' hf h1 h2 hu => ?_) (t5.fr f6 (by unfold Wp; omega) (by unfold Wp; omega))
            · rw [o6 _ (by unfold moX; omega)]; exact r5 p' k' g u hp' hE' hk' hf h1 h2 hu
            · by_cases y : k' = k
              · rw [y]; exact n6 g u h1 h2 hu
              · rw [o6 _ (by unfold moX; omega)]; exact q5 k' g u (by omega) hf h1 h2 hu
      · rw [w32s (by omega)]
        refine ih M4 _ f4 e4 k4 (fun p' k g u hp' hE' hk hf h1 h2 hu => ?_) ?_
        · by_cases z : p' = p
          · rw [z] at hE'; exact absurd hE' hE
          · exact r4 p' k g u (by omega) hE' hk hf h1 h2 hu
        · have := t4.skip 1000 (fun c h1 h2 => fit_no3 (p := p) (by omega) (by omega) (Or.inl (Classical.not_not.mp hE)))
          rw [show 1000 * (p + 1) = 1000 * p + 1000 by omega]
          exact this
  · rcases hz with z | ⟨z1, z2⟩
    · exact absurd z c
    · exact h M Fr.refl rfl z1 z2
theorem alO_1 {p u c : Nat} {x : Int} (hf : fitP I t nn nt c) : cnB (alO I t nn nt p u x) (c + 1) = cnB (alO I t nn nt p u x) c + (if cdO c = p ∧ hft (trW I t c u p) = x then 1 else 0) := by
  simp only [cnB]
  have e : alO I t nn nt p u x c = decide (cdO c = p ∧ hft (trW I t c u p) = x) := by
    unfold alO
    rw [fitB_t.mpr hf, Bool.true_and, ← Bool.decide_and]
  rw [e]
  by_cases z : cdO c = p ∧ hft (trW I t c u p) = x
  · rw [if_pos z, if_pos (decide_eq_true z)]
  · rw [if_neg z, if_neg (fun y => z (of_decide_eq_true y))]
    rfl
theorem otB_1 {p c : Nat} (hf : fitP I t nn nt c) : cnB (otB I t nn nt p) (c + 1) = cnB (otB I t nn nt p) c + (if cdO c = p then 0 else 1) := by
  simp only [cnB]
  have e : otB I t nn nt p c = !decide (cdO c = p) := by
    unfold otB
    rw [fitB_t.mpr hf, Bool.true_and]
  rw [e]
  by_cases z : cdO c = p
  · rw [if_pos z]; simp [z]
  · rw [if_neg z]; simp [z]
theorem alO_f {p u : Nat} {x : Int} : ∀ c, alO I t nn nt p u x c = true → fitB I t nn nt c = true := by
  intro c h
  unfold alO at h
  rw [Bool.and_eq_true] at h
  exact h.1
theorem otB_f {p : Nat} : ∀ c, otB I t nn nt p c = true → fitB I t nn nt c = true := by
  intro c h
  unfold otB at h
  rw [Bool.and_eq_true] at h
  exact h.1
theorem fitN_eq {b' : Nat → Bool} (hb : ∀ c, b' c = true → fitB I t nn nt c = true) {x y : Nat} (e : fitN I t nn nt x = fitN I t nn nt y) : cnB b' x = cnB b' y := cnB_sub2 hb (by rw [← fitN_cn, ← fitN_cn]; exact e)
theorem RZ.t4 (h : RZ M I t nn nt) : T4 M I t 9 := ⟨h.1, h.2.1⟩
theorem x_alike {p u : Nat} (hd : 9 ≤ d) (hS : Shp M) (hI : WI I) (ht : SB M 41 t) (hg : GS I.np t) (h9 : t 0 9 = 0) (hZ : RZ M I t nn nt) (hp : p < I.np) (hu : u < 9) (h : ∀ M', Fr (fun r => r = 404) M M' → Q (some (vI (mstF I t nn nt p u))) M') : Call d mX6_mostAlike [vR 387, vR 41, vI (p : Int), vI (u : Int)] M Q := by
  obtain ⟨e, rfl⟩ := dd (d := d) (by omega)
  have hn8 := hI.1
  have hw := hg.1
  have hall := fitN_all (I := I) (t := t) (nn := nn) (nt := nt) hn8
  refine vr_alike (by omega) hS ?_
  refine up_to (R := fun i => ∀ M1 l5 l6 l7, Fr (fun r => r = 404) M M1 → (∀ j, j < i → iv M1 404 j = 0) → Run (e + 1) mX6_mostAlike 3 [some (vR 387), some (vR 41), some (vI (p : Int)), some (vI (u : Int)), some (vI (i : Int)), l5, l6, l7] [] M1 Q) 64 ?_ ?_ M none none none Fr.refl (fun j hj => absurd hj (Nat.not_lt_zero _))
  · intro M1 l5 l6 l7 f1 z1
    refine vr_alike_3 (by omega) (f1.shp hS) ⟨fun _ => ?_, fun z => absurd (by decide) z⟩
    refine up_to (R := fun m => ∀ M2 (o : Int) l6 l7, Fr (fun r => r = 404) M M2 → (∀ c, c ≤ 1000 * I.np → fitN I t nn nt c = m → (∀ x : Nat, x < 64 → iv M2 404 x = (cnB (alO I t nn nt p u (x : Int)) c : Nat)) ∧ o = (cnB (otB I t nn nt p) c : Nat)) → Run (e + 1) mX6_mostAlike 32 [some (vR 387), some (vR 41), some (vI (p : Int)), some (vI (u : Int)), some (vI o), some (vI (m : Int)), l6, l7] [] M2 Q) (fitN I t nn nt (1000 * I.np)) ?_ ?_ M1 0 l6 l7 f1 (fun c _ hc => ⟨fun x hx => ?_, ?_⟩)
    · intro M2 o l6 l7 f2 k2
      have s2 := f2.shp hS
      have Z2 : RZ M2 I t nn nt := hZ.fr f2 (by intro r hr; omega)
      obtain ⟨a1, a2⟩ := k2 _ (Nat.le_refl _) rfl
      have eW : atl M2 72 401 (w32 (w32 ((u : Int) * 8) + (p : Int))) = wtS (pW I (tqS I t u)) p := by
        rw [ix8 (by omega) (by omega)]
        unfold atl
        rw [if_pos ⟨by omega, by omega⟩, Int.toNat_natCast]
        exact Z2.2.1 u p hu hp
      have w0 := tqW_pos (I := I) (t := t) (u := u) hI hg hp
      have w1 := (wtS_in (WS_pW (I := I) (tqS_ws (I := I) (h := u) hw h9 (by omega))) (WM_pW hI) (by omega : p < 8)).2
      have w2 := hft_in (x := wtS (pW I (tqS I t u)) p) ⟨w0, by omega⟩
      obtain ⟨b, hb⟩ : ∃ b : Nat, hft (wtS (pW I (tqS I t u)) p) = (b : Int) := ⟨(hft (wtS (pW I (tqS I t u)) p)).toNat, by omega⟩
      refine vr_alike_32 (by omega) s2 ⟨fun _ => ?_, fun z => absurd (by rw [Z2.2.2.2.1]; omega) z⟩
      rw [eW, hb, atv_n (by omega : b < 64), a1 b (by omega), a2]
      refine ⟨⟨w0, by omega⟩, fun v hv N hN sN => ?_⟩
      have cl1 := cnB_le (b := alO I t nn nt p u (b : Int)) (1000 * I.np)
      have cl2 := cnB_le (b := otB I t nn nt p) (1000 * I.np)
      rw [w32_i (by omega) (by omega)] at hv
      have gN : Fr (fun r => r = 404) M N := by rw [hN]; exact f2.pv rfl
      have eN : ∀ x : Nat, x < 64 → iv N 404 x = (cnB (alB I t nn nt p u (x : Int)) (1000 * I.np) : Nat) := by
        intro x hx
        rw [hN, iv_ptv, alB_sum, hb]
        by_cases z : x = b
        · rw [z, if_pos ⟨rfl, rfl, by omega⟩, if_pos rfl, hv]
          omega
        · rw [if_neg (by omega), if_neg (by omega), a1 x hx]
          omega
      refine up_to (R := fun i => Run (e + 1) mX6_mostAlike 152 [some (vR 387), some (vR 41), some (vI (p : Int)), some (vI (u : Int)), some (vI ((cnB (otB I t nn nt p) (1000 * I.np) : Nat) : Int)), some (vI (b : Int)), some (vI (mxF (iv N 404) i)), some (vI (i : Int))] [] N Q) 64 ?_ ?_
      · refine vr_alike_152 (by omega) sN ⟨fun _ => ?_, fun z => absurd (by decide) z⟩
        have em : mxF (iv N 404) 64 = mstF I t nn nt p u := mxF_cg 64 (fun j hj => eN j hj)
        rw [em]
        exact h N gN
      · intro i hi ih
        refine vr_alike_152 (by omega) sN ⟨fun z => absurd z (by omega), fun _ => ?_⟩
        rw [atv_n (by omega : i < 64), w32s (by omega)]
        exact ih
    · intro m hm ih M2 o l6 l7 f2 k2
      have s2 := f2.shp hS
      have Z2 : RZ M2 I t nn nt := hZ.fr f2 (by intro r hr; omega)
      obtain ⟨c, c1, c2, c3⟩ := fitC_ex _ hm
      obtain ⟨a1, a2⟩ := k2 c (by omega) c3
      have c4 := Z2.2.2.2.2.2 c c1 c2
      rw [c3] at c4
      obtain ⟨k1, k2', k3, k4, k5, k6, k7⟩ := c2.1
      have hc8 : c < 8000 := by unfold cdP at k1; omega
      have hT9 : cdT c ≤ 9 := by unfold cdT; omega
      have nx : ∀ c', c' ≤ 1000 * I.np → fitN I t nn nt c' = m + 1 → fitN I t nn nt c' = fitN I t nn nt (c + 1) := fun c' _ hc' => by rw [fitN_y c2, c3]; exact hc'
      refine vr_alike_32 (by omega) s2 ⟨fun z => absurd z (by rw [Z2.2.2.2.1]; omega), fun _ => ?_⟩
      rw [atv_n (by omega : m < 1512), c4]
      have cl1 := cnB_le (b := otB I t nn nt p) c
      refine x_whom (by omega) s2 (by omega) ⟨_, rfl, s2, fun z => ?_, fun z => ?_⟩
      · rw [w32s (by omega), w32_i (by omega) (by omega)]
        refine ih M2 _ _ _ f2 (fun c' h1 h2 => ⟨fun x hx => ?_, ?_⟩)
        · rw [fitN_eq (alO_f (p := p) (u := u) (x := (x : Int))) (nx c' h1 h2), alO_1 c2, if_neg (fun y => z (by rw [y.1])), a1 x hx]
          rfl
        · rw [fitN_eq (otB_f (p := p)) (nx c' h1 h2), otB_1 c2, if_neg (fun y => z (by rw [y])), a2]
          omega
      · have z' : cdO c = p := by omega
        refine x_with (by omega) s2 hI (ht.fr f2 (by intro k hk _; omega)) hw h9 Z2.t4 c2.1 (fun u hu => Z2.2.2.1 _ _ _ u k1 k7 k4 k6 k5 hT9 hu) hp hu ⟨_, rfl, s2, ?_⟩
        have w0 := trW_pos (I := I) (t := t) (c := c) (u := u) hI hg hp
        have w1 := (trW_in (I := I) (t := t) (c := c) (u := u) (p := p) hI hw (by omega)).2
        have w2 := hft_in (x := trW I t c u p) ⟨w0, by omega⟩
        obtain ⟨b, hb⟩ : ∃ b : Nat, hft (trW I t c u p) = (b : Int) := ⟨(hft (trW I t c u p)).toNat, by omega⟩
        have cl2 := cnB_le (b := alO I t nn nt p u (b : Int)) c
        rw [hb, atv_n (by omega : b < 64), a1 b (by omega), w32s (i := m) (by omega), w32_i (by omega) (by omega)]
        refine ⟨⟨w0, by omega⟩, fun N hN sN => ih N _ _ _ (by rw [hN]; exact f2.pv rfl) (fun c' h1 h2 => ⟨fun x hx => ?_, ?_⟩)⟩
        · rw [fitN_eq (alO_f (p := p) (u := u) (x := (x : Int))) (nx c' h1 h2), alO_1 c2, hN, iv_ptv, hb]
          by_cases y : x = b
          · rw [y, if_pos ⟨rfl, rfl, by omega⟩, if_pos ⟨z', rfl⟩]
            omega
          · rw [if_neg (by omega), if_neg (by omega), a1 x hx]
            rfl
        · rw [fitN_eq (otB_f (p := p)) (nx c' h1 h2), otB_1 c2, if_pos z', a2]
          rfl
    · have := fitN_eq (x := c) (y := 0) (alO_f (I := I) (t := t) (nn := nn) (nt := nt) (p := p) (u := u) (x := (x : Int))) hc
      rw [this, z1 x hx]
      rfl
    · have := fitN_eq (x := c) (y := 0) (otB_f (I := I) (t := t) (nn := nn) (nt := nt) (p := p)) hc
      rw [this]
      rfl
  · intro i hi ih M1 l5 l6 l7 f1 z1
    refine vr_alike_3 (by omega) (f1.shp hS) ⟨fun z => absurd z (by omega), fun _ N hN sN => ?_⟩
    rw [w32s (by omega)]
    refine ih N _ _ _ (by rw [hN]; exact f1.pv rfl) (fun j hj => ?_)
    rw [hN, iv_ptv]
    by_cases z : j = i
    · rw [z, if_pos ⟨rfl, rfl, by omega⟩]
    · rw [if_neg (by omega)]; exact z1 j (by omega)
theorem x_best {p : Nat} (hd : 10 ≤ d) (hS : Shp M) (hI : WI I) (ht : SB M 41 t) (hg : GS I.np t) (h9 : t 0 9 = 0) (hZ : RZ M I t nn nt) (hp : p < I.np) (h : ∀ M', Fr (fun r => r = 404) M M' → Q (some (vI (bsF (mstF I t nn nt p) 9).1)) M') : Call d mX6_bestHoursToAsk [vR 387, vR 41, vI (p : Int)] M Q := by
  obtain ⟨e, rfl⟩ := dd (d := d) (by omega)
  refine vr_best (by omega) hS ?_
  refine up_to (R := fun u => ∀ M1 l6, Fr (fun r => r = 404) M M1 → Run (e + 1) mX6_bestHoursToAsk 8 [some (vR 387), some (vR 41), some (vI (p : Int)), some (vI (bsF (mstF I t nn nt p) u).1), some (vI (bsF (mstF I t nn nt p) u).2), some (vI (u : Int)), l6] [] M1 Q) 9 ?_ ?_ M none Fr.refl
  · intro M1 l6 f1
    exact vr_best_8 (by omega) (f1.shp hS) ⟨fun _ => h M1 f1, fun z => absurd (by decide) z⟩
  · intro u hu ih M1 l6 f1
    have s1 := f1.shp hS
    refine vr_best_8 (by omega) s1 ⟨fun z => absurd z (by omega), fun _ => x_alike (by omega) s1 hI (ht.fr f1 (by intro k hk _; omega)) hg h9 (hZ.fr f1 (by intro r hr; omega)) hp hu (fun M2 f2 => ⟨_, rfl, f2.shp s1, ?_⟩)⟩
    have g2 := f1.trans f2
    rw [w32s (by omega)]
    simp only [bsF] at ih
    refine ⟨fun z => ?_, fun z => ⟨fun y => ?_, fun y => ?_⟩⟩
    · rw [if_pos (Or.inl z)] at ih
      dsimp only at ih
      exact ih M2 _ g2
    · rw [if_neg (by omega)] at ih
      exact ih M2 _ g2
    · rw [if_pos (Or.inr (by omega))] at ih
      dsimp only at ih
      exact ih M2 _ g2
theorem x_note {p n v mo : Int} (hd : 6 ≤ d) (hS : Shp M) (hnn : iv M 387 4 = (nn : Int)) (h10 : nn < 10) (hmo : mo = 0 ∨ mo = 1) (h : ∀ M', Fr (fun r => 387 ≤ r ∧ r ≤ 391) M M' → iv M' 387 4 = ((nn + 1 : Nat) : Int) → iv M' 387 5 = 0 → (∀ i : Nat, iv M' 388 i = if i = nn then p else iv M 388 i) → (∀ i : Nat, iv M' 389 i = if i = nn then n else iv M 389 i) → (∀ i : Nat, iv M' 390 i = if i = nn then v else iv M 390 i) → (∀ i : Nat, iv M' 391 i = if i = nn then mo else iv M 391 i) → Q (some (vI 1)) M') : Call d mX6_note [vR 387, vI p, vI n, vI v, vI mo] M Q := by
  obtain ⟨e, rfl⟩ := dd (d := d) (by omega)
  have em : (if mo = 0 then (0 : Int) else 1) = mo := by rcases hmo with z | z <;> rw [z] <;> decide
  refine vr_note (by omega) hS ⟨fun _ N2 h2 _ N4 h4 _ N6 h6 _ N8 h8 _ N10 h10 _ N12 h12 _ => ?_, fun z => absurd (by omega) z⟩
  rw [hnn] at h2
  have i2 : iv N2 387 4 = (nn : Int) := by rw [h2, iv_ptv, if_neg (by omega), hnn]
  rw [i2] at h4
  have i4 : iv N4 387 4 = (nn : Int) := by rw [h4, iv_ptv, if_neg (by omega), i2]
  rw [i4] at h6
  have i6 : iv N6 387 4 = (nn : Int) := by rw [h6, iv_ptv, if_neg (by omega), i4]
  rw [i6, em] at h8
  have i8 : iv N8 387 4 = (nn : Int) := by rw [h8, iv_ptv, if_neg (by omega), i6]
  rw [i8, w32s (by omega)] at h10
  have up : ∀ (A B : jM) (r : Nat) (x : Int), B = ptv A 10 r (nn : Int) x → ∀ (s i : Nat), iv B s i = if s = r ∧ i = nn then x else iv A s i := by
    intro A B r x hB s i
    rw [hB, iv_ptv]
    by_cases z : s = r ∧ i = nn
    · rw [if_pos z, if_pos ⟨z.1, by omega, by omega⟩]
    · rw [if_neg z, if_neg (by omega)]
  have u2 := up _ _ _ _ h2
  have u4 := up _ _ _ _ h4
  have u6 := up _ _ _ _ h6
  have u8 := up _ _ _ _ h8
  have u12 : ∀ s i : Nat, s ≠ 387 → iv N12 s i = iv N8 s i := by
    intro s i hs
    rw [h12, iv_si, if_neg (by omega), h10, iv_si, if_neg (by omega)]
  refine h N12 ?_ ?_ ?_ (fun i => ?_) (fun i => ?_) (fun i => ?_) (fun i => ?_)
  · rw [h12, h10, h8, h6, h4, h2]
    exact ((((((fr_ptv ⟨by decide, by decide⟩).pv ⟨by decide, by decide⟩).pv ⟨by decide, by decide⟩).pv ⟨by decide, by decide⟩).ps ⟨by decide, by decide⟩).ps ⟨by decide, by decide⟩)
  · rw [h12, iv_si, if_neg (by omega), h10, iv_si, if_pos ⟨rfl, rfl⟩]
  · rw [h12, iv_si, if_pos ⟨rfl, rfl⟩]
  · rw [u12 _ _ (by decide), u8, if_neg (by omega), u6, if_neg (by omega), u4, if_neg (by omega), u2]
    simp
  · rw [u12 _ _ (by decide), u8, if_neg (by omega), u6, if_neg (by omega), u4]
    simp [u2]
  · rw [u12 _ _ (by decide), u8, if_neg (by omega), u6]
    simp [u4, u2]
  · rw [u12 _ _ (by decide), u8]
    simp [u6, u4, u2]
end RiddleY
theorem CX.rid {P : Nat → Prop} {M M' : jM} {W : kW} {u : Nat × (Nat → Nat → Int)} (h : CX M W) (hok : OKW W) (hf : Fr P M M') (hp : ∀ r, P r → Rd M r) (hR : RidX M' (W.setN u)) : CX M' (W.setN u) := by
  obtain ⟨a0, a1, a2, a3, a4, a5, a6, a7, a8, a9, a10⟩ := h
  have q : ∀ r, ¬ Rd M r → ¬ P r := fun r hr z => hr (hp r z)
  have e : ∀ r, ¬ Rd M r → iv M' r = iv M r := fun r hr => hf.eiv (q r hr)
  have e6 : iv M' 6 = iv M 6 := e 6 (by unfold Rd Wp; omega)
  have hl0 : LawX M' W := a7.fr hf e6 (fun r hr hq => by have := hp r hq; unfold Rd Wp at this; omega) hok
  refine ⟨hf.shp a0, a1.xc hf (fun r hr => Rd_x (hp r hr)), ?_, ?_, ?_, hR, ?_, hl0, ?_, ?_, ?_⟩
  · obtain ⟨h1, h2, h3⟩ := a2
    refine ⟨fun z => ?_, by rw [e 33 (by unfold Rd Wp; omega)]; exact h2, h3.fr hf (fun r _ _ => q r (by unfold Rd Wp; omega))⟩
    obtain ⟨b1, b2⟩ := h1 z
    exact ⟨b1.fr hf (fun k hk _ => q _ (by unfold Rd Wp; omega)), b2.fr hf (q _ (by unfold Rd Wp; omega))⟩
  · unfold PicX
    rw [e6]
    exact ⟨a3.1, fun v hv => by
      obtain ⟨b1, b2⟩ := a3.2 v hv
      exact ⟨b1.fr hf (fun k hk _ => q _ (by unfold Rd Wp; omega)), b2.fr hf (q _ (by unfold Rd Wp; omega))⟩⟩
  · exact fun z => (a4 z).fr hf (fun k hk _ => q _ (by unfold Rd Wp; omega))
  · unfold TapX
    rw [e 7 (by unfold Rd Wp; omega), e 8 (by unfold Rd Wp; omega)]
    exact a6
  · unfold RefX
    rw [e 28 (by unfold Rd Wp; omega)]
    exact a8
  · unfold RdrX LgtX
    rw [e 12 (by unfold Rd Wp; omega), e 13 (by unfold Rd Wp; omega), e 14 (by unfold Rd Wp; omega), e 43 (by unfold Rd Wp; omega), e 44 (by unfold Rd Wp; omega), e 45 (by unfold Rd Wp; omega), e 48 (by unfold Rd Wp; omega)]
    exact a9
  · rw [e6]
    exact a10
theorem FX.rid {P : Nat → Prop} {M M' : jM} (hf : Fr P M M') (hS : Shp M) (hp : ∀ r, P r → Rd M r) : FX M M' :=
  FX.of hf hS (fun r hr => by have := hp r hr; unfold Rd Wp at this; omega)
def wSeen (W : kW) (p n v mo : Int) : Int × kW := if 0 ≤ p ∧ p < W.I.np ∧ 0 ≤ n ∧ n ≤ 8 ∧ 0 ≤ v ∧ v ≤ 9999 ∧ W.nn < 10 then (((W.nn + 1 : Nat) : Int), W.setN (W.nn + 1, fun k i => if k = W.nn then (if i = 0 then p else if i = 1 then n else if i = 2 then v else mo) else W.nt k i)) else (-1, W)
theorem okSeen {W : kW} {p n v mo : Int} (h : OKW W) (hmo : mo = 0 ∨ mo = 1) : OKW (wSeen W p n v mo).2 := by
  unfold wSeen
  split
  · rename_i c
    obtain ⟨h1, h2, h3, h4, h5, h6, ⟨h7, h7'⟩, h8, h9, h10, h11⟩ := h
    refine ⟨h1, h2, h3, fun z => ?_, h5, h6, ⟨?_, fun k hk => ?_⟩, h8, h9, h10, h11⟩
    · exact absurd z (by show ¬ W.I.np = 0; omega)
    · show W.nn + 1 ≤ 10
      omega
    · have hk : k < W.nn + 1 := hk
      show 0 ≤ (if k = W.nn then _ else _) ∧ (if k = W.nn then _ else _) < (W.I.np : Int) ∧ 0 ≤ (if k = W.nn then _ else _) ∧ (if k = W.nn then _ else _) ≤ 8 ∧ 0 ≤ (if k = W.nn then _ else _) ∧ (if k = W.nn then _ else _) ≤ 9999 ∧ ((if k = W.nn then _ else _) = 0 ∨ (if k = W.nn then _ else _) = 1)
      by_cases z : k = W.nn
      · rw [if_pos z, if_pos z, if_pos z, if_pos z]
        refine ⟨c.1, c.2.1, c.2.2.1, c.2.2.2.1, c.2.2.2.2.1, c.2.2.2.2.2.1, hmo⟩
      · rw [if_neg z, if_neg z, if_neg z, if_neg z]
        exact h7' k (by omega)
  · exact h
section RiddleZ
variable {d : Nat} {M : jM} {Q : Option jV → jM → Prop} {W : kW}
theorem CX.sr (hX : CX M W) (hok : OKW W) : SR M W.I.np W.nn W.nt := ⟨hX.2.2.2.2.2.1.1, hX.2.2.2.2.2.1.2.1, hok.2.2.2.2.2.2.1.1, hok.2.2.2.2.2.2.1.2⟩
theorem OKW.gt (h : OKW W) (hn : 0 < W.I.np) : GS W.I.np W.t ∧ W.t 0 9 = 0 := (h.2.2.1 hn).2
theorem X_solve (hd : 12 ≤ d) (hX : CX M W) (hok : OKW W) (hn : 0 < W.I.np) (h : ∀ M', FX M M' → CX M' W → RZ M' W.I W.t W.nn W.nt → Q none M') : Call d mX6_solve [vR 387, vR 29, vR 41] M Q := by
  obtain ⟨g1, g2⟩ := hok.gt hn
  refine x_solve hd hX.shp hX.ia hok.wi (hX.2.2.2.2.1 hn) g1.1 g2 (hX.sr hok) hX.2.2.2.2.2.1.2.2 (fun M' hf e4 e5 hz => h M' (FX.rid hf hX.shp (fun r hr => Rs_d hr)) ?_ hz)
  refine hX.rid (u := W.2.2.2.2.1) hok hf (fun r hr => Rs_d hr) ?_
  obtain ⟨b1, b2, _⟩ := hX.2.2.2.2.2.1
  refine ⟨by rw [e4]; exact b1, fun k hk => ?_, Or.inr ⟨e5, hz⟩⟩
  rw [hf.eiv (by unfold Rs Wp; omega), hf.eiv (by unfold Rs Wp; omega), hf.eiv (by unfold Rs Wp; omega), hf.eiv (by unfold Rs Wp; omega)]
  exact b2 k hk
theorem X_fits {i : Int} (hd : 13 ≤ d) (hX : CX M W) (hok : OKW W) (h : ∀ M', FX M M' → CX M' W → Q (some (vI (aFits W i))) M') : Call d mX10_fits [vR 6, vI i] M Q := by
  obtain ⟨e, rfl⟩ := dd (d := d) (by omega)
  have hS := hX.shp
  have h0 := h M (FX.refl hS) hX
  unfold aFits at h h0
  refine vx_fits (by omega) hS ⟨fun c => ?_, fun c => ⟨fun c2 => ?_, fun c2 => ?_⟩⟩
  · rw [i01, hX.np] at c; rw [if_pos (by omega)] at h0; exact h0
  · rw [i01, hX.np] at c
    rw [if_neg (by omega)] at h
    refine X_solve (by omega) hX hok (by omega) (fun M4 f4 x4 z4 => ⟨rfl, x4.shp, fun y => ?_, fun y => ?_⟩)
    · have h := h M4 f4 x4
      rw [if_neg y] at h
      obtain ⟨k, rfl⟩ : ∃ k : Nat, i = (k : Int) := ⟨i.toNat, by omega⟩
      obtain ⟨z41, z42, z43, z44, z45, z46⟩ := z4
      rw [z44]
      by_cases w : (fitN W.I W.t W.nn W.nt (1000 * W.I.np) : Int) ≤ (k : Int)
      · rw [fitC_big w] at h
        rw [if_pos w]
        exact h
      · rw [if_neg w]
        obtain ⟨c, c1, c2, c3⟩ := fitC_ex (I := W.I) (t := W.t) (nn := W.nn) (nt := W.nt) (i := k) (1000 * W.I.np) (by omega)
        rw [fitC_at c2 (by rw [c3]) _ c1] at h
        have := z46 c c1 c2
        rw [c3] at this
        rw [atv_n (by omega : k < 1512), this]
        exact h
    · have h := h M4 f4 x4
      rw [if_pos (Classical.not_not.mp y)] at h
      rw [z4.2.2.2.1]
      exact h
  · rw [if_pos (by omega)] at h0; exact h0
theorem X_ask {p : Int} (hd : 13 ≤ d) (hX : CX M W) (hok : OKW W) (h : ∀ M', FX M M' → CX M' W → Q (some (vI (aAsk W p))) M') : Call d mX10_ask [vR 6, vI p] M Q := by
  obtain ⟨e, rfl⟩ := dd (d := d) (by omega)
  have hS := hX.shp
  have h0 := h M (FX.refl hS) hX
  unfold aAsk at h h0
  refine vx_ask (by omega) hS ⟨fun c => ?_, fun c => ?_⟩
  · rw [i01n, hX.np] at c
    rw [if_neg (by omega)] at h
    obtain ⟨q, rfl⟩ : ∃ q : Nat, p = (q : Int) := ⟨p.toNat, by omega⟩
    rw [Int.toNat_natCast] at h
    obtain ⟨g1, g2⟩ := hok.gt (by omega)
    refine X_solve (by omega) hX hok (by omega) (fun M4 f4 x4 z4 => ⟨rfl, x4.shp, fun y => ?_, fun y => ?_⟩)
    · have s4 := x4.shp
      rw [z4.2.2.2.1] at y
      rw [if_neg (by omega)] at h
      refine x_best (by omega) s4 hok.wi (x4.2.2.2.2.1 (by omega)) g1 g2 z4 (by omega) (fun M5 f5 => ⟨_, rfl, f5.shp s4, ?_⟩)
      have gd : ∀ r, r = 404 → Rd M4 r := fun r hr => by unfold Rd; omega
      have x5 : CX M5 W := by
        refine x4.rid (u := W.2.2.2.2.1) hok f5 gd ?_
        obtain ⟨b1, b2, b3⟩ := x4.2.2.2.2.2.1
        refine ⟨by rw [f5.eiv (by decide)]; exact b1, fun k hk => ?_, b3.imp (fun z => by rw [f5.eiv (by decide)]; exact z) (fun z => ⟨by rw [f5.eiv (by decide)]; exact z.1, z.2.fr f5 (by intro r hr; omega)⟩)⟩
        rw [f5.eiv (by decide), f5.eiv (by decide), f5.eiv (by decide), f5.eiv (by decide)]
        exact b2 k hk
      refine h M5 ?_ x5
      have g5 := FX.rid f5 s4 gd
      obtain ⟨p1, p2, p3, p4, p5, p6⟩ := f4
      refine ⟨g5.1, fun r hr => ?_, ?_, ?_, ?_, ?_⟩
      · obtain ⟨q1, q2, q3⟩ := g5.2.1 r hr
        obtain ⟨o1, o2, o3⟩ := p2 r hr
        exact ⟨q1.trans o1, q2.trans o2, q3.trans o3⟩
      · rw [f5.emx]; exact p3
      · rw [f5.emx]; exact p4
      · rw [f5.ems]; exact p5
      · rw [f5.ems]; exact p6
    · rw [z4.2.2.2.1] at y
      have h := h M4 f4 x4
      rw [if_pos (by omega)] at h
      exact h
  · rw [i01n, hX.np] at c; rw [if_pos (by omega)] at h0; exact h0
theorem X_seen {p n v mo : Int} (hd : 8 ≤ d) (hX : CX M W) (hok : OKW W) (hmo : mo = 0 ∨ mo = 1) (h : ∀ M', FX M M' → CX M' (wSeen W p n v mo).2 → Q (some (vI (wSeen W p n v mo).1)) M') : Call d mX10_seen [vR 6, vI p, vI n, vI v, vI mo] M Q := by
  obtain ⟨e, rfl⟩ := dd (d := d) (by omega)
  have hS := hX.shp
  have hr : ¬ (0 ≤ p ∧ p < W.I.np ∧ 0 ≤ n ∧ n ≤ 8 ∧ 0 ≤ v ∧ v ≤ 9999 ∧ W.nn < 10) → Q (some (vI (-1))) M := fun c => by
    have h0 := h M (FX.refl hS)
    unfold wSeen at h0
    rw [if_neg c] at h0
    exact h0 hX
  obtain ⟨b1, b2, b3⟩ := hX.2.2.2.2.2.1
  have hn10 := hok.2.2.2.2.2.2.1.1
  refine vx_seen (by omega) hS ⟨fun c => ?_, fun c => ⟨fun c2 => ?_, fun c2 => ⟨fun c3 => ?_, fun c3 => ⟨fun c4 => ?_, fun c4 => ⟨fun c5 => ?_, fun c5 => ?_⟩⟩⟩⟩⟩
  · rw [i01, hX.np] at c; exact hr (by omega)
  · exact hr (by omega)
  · exact hr (by omega)
  · exact hr (by omega)
  · rw [i01, hX.np] at c
    by_cases c6 : W.nn < 10
    · unfold wSeen at h
      rw [if_pos (by omega)] at h
      refine x_note (by omega) hS b1 c6 hmo (fun M' hf e4 e5 r1 r2 r3 r4 => ⟨_, rfl, hf.shp hS, ?_⟩)
      rw [if_neg (by decide), e4]
      refine h M' (FX.rid hf hS (fun r hr => by unfold Rd; omega)) (hX.rid hok hf (fun r hr => by unfold Rd; omega) ⟨e4, fun k hk => ?_, Or.inl e5⟩)
      have hk : k < W.nn + 1 := hk
      show iv M' 388 k = (if k = W.nn then p else W.nt k 0) ∧ iv M' 389 k = (if k = W.nn then n else W.nt k 1) ∧ iv M' 390 k = (if k = W.nn then v else W.nt k 2) ∧ iv M' 391 k = (if k = W.nn then mo else W.nt k 3)
      rw [r1, r2, r3, r4]
      by_cases z : k = W.nn
      · rw [if_pos z, if_pos z, if_pos z, if_pos z, if_pos z, if_pos z, if_pos z, if_pos z]
        exact ⟨rfl, rfl, rfl, rfl⟩
      · rw [if_neg z, if_neg z, if_neg z, if_neg z, if_neg z, if_neg z, if_neg z, if_neg z]
        exact b2 k (by omega)
    · obtain ⟨e', rfl⟩ := dd (d := e) (by omega)
      refine vr_note (by omega) hS ⟨fun z => absurd z (by omega), fun _ => ⟨_, rfl, hS, ?_⟩⟩
      rw [if_pos rfl]
      exact hr (by omega)
  · exact hr (by omega)
end RiddleZ
