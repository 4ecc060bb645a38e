/-! THE RIDDLE: of the model, ask -/
section RiddleM3
variable {d : Nat} {M : jM} {Q : Option jV → jM → Prop} {W : kW}
theorem alB_1 {I : jI} {t : jS} {nn : Nat} {nt : Nat → Nat → Int} {p u c : Nat} {x : Int} (hf : fitP I t nn nt c) : cnB (alB I t nn nt p u x) (c + 1) = cnB (alB I t nn nt p u x) c + (if hft (trW I t c u p) = x then 1 else 0) := by
  simp only [cnB]
  have e : alB I t nn nt p u x c = decide (hft (trW I t c u p) = x) := by
    unfold alB
    rw [fitB_t.mpr hf, Bool.true_and]
  rw [e]
  by_cases z : hft (trW I t c u p) = x
  · rw [if_pos z, if_pos (decide_eq_true z)]
  · rw [if_neg z, if_neg (fun y => z (of_decide_eq_true y))]
    rfl
theorem alB_0 {I : jI} {t : jS} {nn : Nat} {nt : Nat → Nat → Int} {p u c : Nat} {x : Int} (hf : ¬ fitP I t nn nt c) : cnB (alB I t nn nt p u x) (c + 1) = cnB (alB I t nn nt p u x) c := by
  simp only [cnB]
  rw [if_neg (fun z => by
    unfold alB at z
    rw [Bool.and_eq_true] at z
    exact hf (fitB_t.mp z.1))]
theorem M_ask {p : Int} (hd : 22 ≤ d) (hM : CM M W) (hok : OKW W) (h : ∀ M', FM M M' → CM M' W → Q (some (vI (aAsk W p))) M') : Call d mX11_ask [vR 468, vI p] M Q := by
  obtain ⟨e, rfl⟩ := dd (d := d) (by omega)
  have hS := hM.shp
  have hn8 := hok.wi.1
  have hI := hok.wi
  have h0 := h M Fr.refl hM
  unfold aAsk at h h0
  have hall := fitN_all (I := W.I) (t := W.t) (nn := W.nn) (nt := W.nt) hn8
  refine vn_ask (by omega) hS ⟨fun c => ?_, fun c => ?_⟩
  · rw [hM.np, w32np hn8, fIn_n] at c
    rw [if_neg (by omega)] at h
    obtain ⟨q, rfl⟩ : ∃ q : Nat, p = (q : Int) := ⟨p.toNat, by omega⟩
    rw [Int.toNat_natCast] at h
    have g1 := (hok.gt (by omega)).1
    refine up_to (R := fun i => ∀ M1 l3, Fr T7 M M1 → iv M1 486 = iv M 486 → (∀ x, x < i → iv M1 497 x = 0) → Run (e + 1) mX11_ask 12 [some (vR 468), some (vI (q : Int)), some (vI (i : Int)), l3, none, none, none, none] [] M1 Q) 576 ?_ ?_ M none Fr.refl rfl (fun x hx => absurd hx (Nat.not_lt_zero _))
    · intro M1 l3 f1 k1 z1
      have m1 := (hM.t7 f1 k1).1
      refine vn_ask_12 (by omega) m1.shp ⟨fun _ => ?_, fun z => absurd (by decide) z⟩
      refine up_to (R := fun c => ∀ M2 l4, Fr T7 M M2 → iv M2 486 = iv M 486 → (∀ u x : Nat, u < 9 → x < 64 → iv M2 497 (64 * u + x) = (cnB (alB W.I W.t W.nn W.nt q u (x : Int)) c : Nat)) → Run (e + 1) mX11_ask 36 [some (vR 468), some (vI (q : Int)), some (vI ((fitN W.I W.t W.nn W.nt c : Nat) : Int)), some (vI (c : Int)), l4, none, none, none] [] M2 Q) (1000 * W.I.np) ?_ ?_ M1 none f1 k1 (fun u x hu hx => z1 _ (by omega))
      · intro M2 l4 f2 k2 t2
        have m2 := (hM.t7 f2 k2).1
        have s2 := m2.shp
        have h := h M2 (hM.t7 f2 k2).2 m2
        refine vn_ask_36 (by omega) s2 ⟨fun _ => ?_, fun z => absurd (by rw [m2.np, w32_i (by omega) (by omega)]; omega) z⟩
        by_cases hN : fitN W.I W.t W.nn W.nt (1000 * W.I.np) = 0
        · rw [if_pos hN] at h
          exact vn_ask_121 (by omega) s2 ⟨fun z => absurd z (by decide), fun _ => ⟨fun _ => h, fun z => absurd (by omega) z⟩⟩
        · rw [if_neg hN] at h
          refine up_to (R := fun u => ∀ l6 l7, Run (e + 1) mX11_ask 121 [some (vR 468), some (vI (q : Int)), some (vI ((fitN W.I W.t W.nn W.nt (1000 * W.I.np) : Nat) : Int)), some (vI (bsF (mstF W.I W.t W.nn W.nt q) u).1), some (vI (bsF (mstF W.I W.t W.nn W.nt q) u).2), some (vI (u : Int)), l6, l7] [] M2 Q) 9 ?_ ?_ none none
          · intro l6 l7
            exact vn_ask_121 (by omega) s2 ⟨fun _ => h, fun z => absurd (by decide) z⟩
          · intro u hu ih l6 l7
            refine vn_ask_121 (by omega) s2 ⟨fun z => absurd z (by omega), fun _ => ⟨fun z => absurd z (by omega), fun _ => ?_⟩⟩
            refine up_to (R := fun k => Run (e + 1) mX11_ask 138 [some (vR 468), some (vI (q : Int)), some (vI ((fitN W.I W.t W.nn W.nt (1000 * W.I.np) : Nat) : Int)), some (vI (bsF (mstF W.I W.t W.nn W.nt q) u).1), some (vI (bsF (mstF W.I W.t W.nn W.nt q) u).2), some (vI (u : Int)), some (vI (mxF (fun x => (cnB (alB W.I W.t W.nn W.nt q u (x : Nat)) (1000 * W.I.np) : Nat)) k)), some (vI (k : Int))] [] M2 Q) 64 ?_ ?_
            · simp only [bsF] at ih
              have em : mxF (fun x => (cnB (alB W.I W.t W.nn W.nt q u (x : Nat)) (1000 * W.I.np) : Nat)) 64 = mstF W.I W.t W.nn W.nt q u := rfl
              rw [em]
              refine vn_ask_138 (by omega) s2 ⟨fun _ => ⟨fun z => ?_, fun z => ⟨fun y => ?_, fun y => ?_⟩⟩, fun z => absurd (by decide) z⟩
              · rw [if_pos (Or.inl z)] at ih
                dsimp only at ih
                rw [w32s (by omega)]
                exact ih _ _
              · rw [if_neg (by omega)] at ih
                rw [w32s (by omega)]
                exact ih _ _
              · rw [if_pos (Or.inr (by omega))] at ih
                dsimp only at ih
                rw [w32s (by omega)]
                exact ih _ _
            · intro k hk ih2
              simp only [mxF] at ih2
              refine vn_ask_138 (by omega) s2 ⟨fun z => absurd z (by omega), fun _ => ?_⟩
              rw [ixm64 (by omega) (by omega), Int.toNat_natCast, t2 u k hu hk]
              refine ⟨⟨by omega, by omega⟩, fun v hv => ?_⟩
              rw [w32s (by omega), hv]
              refine (congrArg (fun z => Run (e + 1) mX11_ask 138 [some (vR 468), some (vI (q : Int)), some (vI ((fitN W.I W.t W.nn W.nt (1000 * W.I.np) : Nat) : Int)), some (vI (bsF (mstF W.I W.t W.nn W.nt q) u).1), some (vI (bsF (mstF W.I W.t W.nn W.nt q) u).2), some (vI (u : Int)), some (vI z), some (vI ((k + 1 : Nat) : Int))] [] M2 Q) ?_).mp ih2
              by_cases z : (cnB (alB W.I W.t W.nn W.nt q u (k : Nat)) (1000 * W.I.np) : Int) ≤ mxF (fun x => (cnB (alB W.I W.t W.nn W.nt q u (x : Nat)) (1000 * W.I.np) : Nat)) k
              · rw [if_pos z, if_neg (by omega)]
              · rw [if_neg z, if_pos (by omega)]
      · intro c' hc ih M2 l4 f2 k2 t2
        have m2 := (hM.t7 f2 k2).1
        have s2 := m2.shp
        refine vn_ask_36 (by omega) s2 ⟨fun z => absurd z (by rw [m2.np, w32_i (by omega) (by omega)]; omega), fun _ => m_isFit (by omega) m2 hok (by omega) (fun hf M3 f3 k3 k37 t3 => ⟨_, rfl, f3.shp s2, fun z => absurd z (by decide), fun _ => ?_⟩) (fun hf M3 f3 k3 k37 => ⟨_, rfl, f3.shp s2, fun _ => ?_, fun z => absurd rfl z⟩)⟩
        · have s3 := f3.shp s2
          have hb := fitN_mono (I := W.I) (t := W.t) (nn := W.nn) (nt := W.nt) (a := c') (b := 1000 * W.I.np) (by omega)
          rw [w32s (i := fitN W.I W.t W.nn W.nt c') (by omega)]
          refine up_to (R := fun u => ∀ M4, Fr T7 M M4 → iv M4 486 = iv M 486 → lg M4 496 = lg M3 496 → (∀ u' x : Nat, u' < 9 → x < 64 → iv M4 497 (64 * u' + x) = (cnB (alB W.I W.t W.nn W.nt q u' (x : Int)) (if u' < u then c' + 1 else c') : Nat)) → Run (e + 1) mX11_ask 62 [some (vR 468), some (vI (q : Int)), some (vI ((fitN W.I W.t W.nn W.nt c' + 1 : Nat) : Int)), some (vI (c' : Int)), some (vI (u : Int)), none, none, none] [] M4 Q) 9 ?_ ?_ M3 (f2.trans f3) (k3.trans k2) rfl (fun u' x hu hx => by rw [if_neg (Nat.not_lt_zero _), k37]; exact t2 u' x hu hx)
          · intro M4 f4 k4 _ t4
            have s4 := f4.shp hS
            refine vn_ask_62 (by omega) s4 ⟨fun _ => ?_, fun z => absurd (by decide) z⟩
            rw [w32s (by omega), ← fitN_y hf]
            exact ih M4 _ f4 k4 (fun u x hu hx => by rw [t4 u x hu hx, if_pos hu])
          · intro u hu ih2 M4 f4 k4 l4' t4
            have s4 := f4.shp hS
            have w0 := trW_pos (I := W.I) (t := W.t) (c := c') (u := u) hI g1 (by omega : q < W.I.np)
            have w1 := (trW_in (I := W.I) (t := W.t) (c := c') (u := u) (p := q) hI g1.1 (by omega)).2
            have w2 := hft_in (x := trW W.I W.t c' u q) ⟨w0, by omega⟩
            obtain ⟨b, hb⟩ : ∃ b : Nat, hft (trW W.I W.t c' u q) = (b : Int) := ⟨(hft (trW W.I W.t c' u q)).toNat, by omega⟩
            have hbl : ((bl (trW W.I W.t c' u q) : Nat) : Int) = (b : Int) + 1 := by unfold hft at hb; omega
            refine vn_ask_62 (by omega) s4 ⟨fun z => absurd z (by omega), fun _ => ?_⟩
            rw [ixm8 (by omega) (by omega), Int.toNat_natCast, l4', t3 u q hu (by omega), hbl]
            refine ⟨⟨by omega, by omega⟩, ⟨by omega, by omega⟩, fun v hv => ?_⟩
            rw [ixm64b (by omega) (by omega) hv, Int.toNat_natCast, t4 u b hu (by omega), if_neg (by omega)]
            refine ⟨⟨by omega, by omega⟩, fun N hN sN => ?_⟩
            have cl := cnB_le (b := alB W.I W.t W.nn W.nt q u (b : Int)) c'
            rw [w32_i (by omega) (by omega)] at hN
            rw [w32s (i := u) (by omega)]
            refine ih2 N (by rw [hN]; exact f4.ps (by unfold T7; omega)) ?_ ?_ (fun u' x hu' hx => ?_)
            · rw [hN, ← k4]; funext x; rw [iv_si, if_neg (by omega)]
            · rw [hN, ← l4']; rfl
            · rw [hN, iv_si]
              by_cases z : u' = u
              · rw [z, if_pos (show u < u + 1 by omega), alB_1 hf, hb]
                by_cases y : x = b
                · rw [y, if_pos ⟨rfl, rfl⟩, if_pos rfl]; omega
                · rw [if_neg (by omega), if_neg (by omega), t4 u x hu hx, if_neg (by omega)]; rfl
              · rw [if_neg (by omega), t4 u' x hu' hx]
                by_cases y : u' < u
                · rw [if_pos y, if_pos (by omega)]
                · rw [if_neg y, if_neg (by omega)]
        · rw [w32s (by omega), ← fitN_n hf]
          exact ih M3 _ (f2.trans f3) (k3.trans k2) (fun u x hu hx => by rw [k37, alB_0 hf]; exact t2 u x hu hx)
    · intro i hi ih M1 l3 f1 k1 z1
      have s1 := f1.shp hS
      refine vn_ask_12 (by omega) s1 ⟨fun z => absurd z (by omega), fun _ => ⟨⟨by omega, by omega⟩, fun N hN sN => ?_⟩⟩
      rw [Int.toNat_natCast] at hN
      rw [w32s (by omega)]
      refine ih N _ (by rw [hN]; exact f1.ps (by unfold T7; omega)) ?_ (fun x hx => ?_)
      · rw [hN, ← k1]; funext x; rw [iv_si, if_neg (by omega)]
      · rw [hN, iv_si]
        by_cases z : x = i
        · rw [if_pos ⟨rfl, z⟩]
        · rw [if_neg (by omega)]; exact z1 x (by omega)
  · rw [hM.np, w32np hn8, fIn_n] at c
    rw [if_pos (by omega)] at h0
    exact h0
end RiddleM3
