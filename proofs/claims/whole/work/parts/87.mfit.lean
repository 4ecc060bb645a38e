/-! THE RIDDLE: of the model, whether a thought fits -/
section RiddleM1
variable {d : Nat} {M : jM} {Q : Option jV → jM → Prop} {W : kW}
theorem m_isFit {c : Nat} (hd : 20 ≤ d) (hM : CM M W) (hok : OKW W) (hc : c < 8000) (hy : fitP W.I W.t W.nn W.nt c → ∀ M', Fr T7 M M' → iv M' 486 = iv M 486 → iv M' 497 = iv M 497 → (∀ u p, u < 9 → p < W.I.np → lg M' 496 (8 * u + p) = trW W.I W.t c u p) → Q (some (vI 1)) M') (hn : ¬ fitP W.I W.t W.nn W.nt c → ∀ M', Fr T7 M M' → iv M' 486 = iv M 486 → iv M' 497 = iv M 497 → Q (some (vI 0)) M') : Call d mX11_isFit [vR 468, vI (c : Int)] M Q := by
  obtain ⟨e, rfl⟩ := dd (d := d) (by omega)
  have hS := hM.shp
  have hI := hok.wi
  have hn8 := hI.1
  refine vn_isFit (by omega) hS (m_isCode (by omega) hM hok (by omega) (fun q => ⟨_, rfl, hS, fun z => absurd z (by decide), fun _ => ?_⟩) (fun q => ⟨_, rfl, hS, fun _ => hn (fun z => q (fitOk_c.mp z.1).1) M Fr.refl rfl rfl, fun z => absurd rfl z⟩))
  refine m_layTrail (by omega) hM hok q (fun hE M1 f1 k1 k7 t1 => ⟨_, rfl, f1.shp hS, fun _ => ?_, fun z => absurd (by decide) z⟩) (fun hE M1 f1 k1 k7 => ⟨_, rfl, f1.shp hS, fun z => absurd rfl z, fun _ => hn (fun z => (fitOk_c.mp z.1).2 hE) M1 f1 k1 k7⟩)
  have s1 := f1.shp hS
  have g1 := (hok.gt (by have := q.1; omega)).1
  have M1c := (hM.t7 f1 k1).1
  obtain ⟨b1, b2⟩ := M1c.2.2.2.2.2.1
  obtain ⟨b3, b4⟩ := hok.2.2.2.2.2.2.1
  refine up_to (R := fun k => (∀ k', k' < k → (1000 * W.nt k' 2 ≤ trW W.I W.t c (W.nt k' 1).toNat (W.nt k' 0).toNat ↔ W.nt k' 3 = 1)) → Run (e + 1) mX11_isFit 20 [some (vR 468), some (vI (c : Int)), some (vI (k : Int))] [] M1 Q) W.nn ?_ ?_ (fun k' hk => absurd hk (Nat.not_lt_zero _))
  · intro hp
    exact vn_isFit_20 (by omega) s1 ⟨fun _ => hy ⟨fitOk_c.mpr ⟨q, hE⟩, hp⟩ M1 f1 k1 k7 t1, fun z => absurd (by rw [b1]; omega) z⟩
  · intro k hk ih hp
    obtain ⟨a1, a2, a3, a4⟩ := b2 k hk
    obtain ⟨c1, c2, c3, c4, c5, c6, c7⟩ := b4 k hk
    obtain ⟨p, ep⟩ : ∃ p : Nat, W.nt k 0 = (p : Int) := ⟨(W.nt k 0).toNat, by omega⟩
    obtain ⟨u, eu⟩ : ∃ u : Nat, W.nt k 1 = (u : Int) := ⟨(W.nt k 1).toNat, by omega⟩
    have hW := trW_in (I := W.I) (t := W.t) (c := c) (u := u) (p := p) hI g1.1 (by omega)
    have ek : (1000 * W.nt k 2 ≤ trW W.I W.t c (W.nt k 1).toNat (W.nt k 0).toNat ↔ W.nt k 3 = 1) ↔ (1000 * W.nt k 2 ≤ trW W.I W.t c u p ↔ W.nt k 3 = 1) := by rw [ep, eu, Int.toNat_natCast, Int.toNat_natCast]
    refine vn_isFit_20 (by omega) s1 ⟨fun z => absurd z (by rw [b1]; omega), fun _ => ?_⟩
    rw [Int.toNat_natCast, a1, a2, a3, a4, ep, eu, w32s (by omega)]
    refine ⟨⟨by omega, by omega⟩, fun v hv => ?_⟩
    rw [ixm8 (by omega) (by omega)] at hv
    rw [hv, Int.toNat_natCast, t1 u p (by omega) (by omega), w64_i (by omega) (by omega)]
    refine ⟨⟨by omega, by omega⟩, fun x hx => ?_⟩
    have eL : (if x < 0 then (0 : Int) else 1) = (if 1000 * W.nt k 2 ≤ trW W.I W.t c u p then 1 else 0) := by
      rw [hx]
      by_cases z : 1000 * W.nt k 2 ≤ trW W.I W.t c u p
      · rw [if_pos z, if_neg (fun y => by rw [jcmp_neg] at y; omega)]
      · rw [if_neg z, if_pos (jcmp_neg.mpr (by omega))]
    have eq : (if 1000 * W.nt k 2 ≤ trW W.I W.t c u p then (1 : Int) else 0) = W.nt k 3 ↔ (1000 * W.nt k 2 ≤ trW W.I W.t c u p ↔ W.nt k 3 = 1) := by
      by_cases z1 : 1000 * W.nt k 2 ≤ trW W.I W.t c u p
      · rw [if_pos z1]; exact ⟨fun y => ⟨fun _ => y.symm, fun _ => z1⟩, fun y => (y.mp z1).symm⟩
      · rw [if_neg z1]
        exact ⟨fun y => ⟨fun x => absurd x z1, fun x => by omega⟩, fun y => by
          rcases c7 with w | w
          · exact w.symm
          · exact absurd (y.mpr w) z1⟩
    rw [eL]
    refine ⟨fun y => ih (fun k' hk' => ?_), fun y => ?_⟩
    · by_cases z : k' = k
      · rw [z]; exact ek.mpr (eq.mp y)
      · exact hp k' (by omega)
    · exact hn (fun z => y (eq.mpr (ek.mp (z.2 k hk)))) M1 f1 k1 k7
end RiddleM1
