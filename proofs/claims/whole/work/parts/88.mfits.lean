/-! THE RIDDLE: of the model, fits -/
section RiddleM2
variable {d : Nat} {M : jM} {Q : Option jV → jM → Prop} {W : kW}
theorem M_fits {i : Int} (hd : 22 ≤ d) (hM : CM M W) (hok : OKW W) (h : ∀ M', FM M M' → CM M' W → Q (some (vI (aFits W i))) M') : Call d mX11_fits [vR 468, vI i] M Q := by
  obtain ⟨e, rfl⟩ := dd (d := d) (by omega)
  have hS := hM.shp
  have hn8 := hok.wi.1
  have h0 := h M Fr.refl hM
  unfold aFits at h h0
  refine vn_fits (by omega) hS ⟨fun c => ?_, fun c => ⟨fun c2 => ?_, fun c2 => ?_⟩⟩
  · rw [hM.np] at c; rw [if_pos (by omega)] at h0; exact h0
  · rw [hM.np] at c
    rw [if_neg (by omega)] at h
    refine up_to (R := fun c => ∀ M1, Fr T7 M M1 → iv M1 486 = iv M 486 → (∀ c', c' < c → fitP W.I W.t W.nn W.nt c' → (fitN W.I W.t W.nn W.nt c' : Int) ≠ i) → Run (e + 1) mX11_fits 18 [some (vR 468), some (vI i), some (vI ((fitN W.I W.t W.nn W.nt c : Nat) : Int)), some (vI (c : Int))] [] M1 Q) (1000 * W.I.np) ?_ ?_ M Fr.refl rfl (fun c' hc => absurd hc (Nat.not_lt_zero _))
    · intro M1 f1 k1 n1
      obtain ⟨m1, fm1⟩ := hM.t7 f1 k1
      have h := h M1 fm1 m1
      refine vn_fits_18 (by omega) m1.shp ⟨fun _ => ?_, fun z => absurd (by rw [m1.np, w32_i (by omega) (by omega)]; omega) z⟩
      by_cases z : i = -1
      · rw [if_pos z] at h
        rw [if_neg (fun y => y z)]
        exact h
      · rw [if_neg z, fitC_no _ n1] at h
        rw [if_pos z]
        exact h
    · intro c' hc ih M1 f1 k1 n1
      obtain ⟨m1, fm1⟩ := hM.t7 f1 k1
      have s1 := m1.shp
      refine vn_fits_18 (by omega) s1 ⟨fun z => absurd z (by rw [m1.np, w32_i (by omega) (by omega)]; omega), fun _ => m_isFit (by omega) m1 hok (by omega) (fun hf M2 f2 k2 _ _ => ⟨_, rfl, f2.shp s1, fun z => absurd z (by decide), fun _ => ⟨fun y => ?_, fun y => ?_⟩⟩) (fun hf M2 f2 k2 _ => ⟨_, rfl, f2.shp s1, fun _ => ?_, fun z => absurd rfl z⟩)⟩
      · rw [w32s (i := c') (by omega), w32s (i := fitN W.I W.t W.nn W.nt c') (by have := fitN_mono (I := W.I) (t := W.t) (nn := W.nn) (nt := W.nt) (a := c') (b := 1000 * W.I.np) (by omega); have := fitN_all (I := W.I) (t := W.t) (nn := W.nn) (nt := W.nt) hn8; omega)]
        have := ih M2 (f1.trans f2) (k2.trans k1) (fun x hx hfx => by
          by_cases z : x = c'
          · rw [z]; exact y
          · exact n1 x (by omega) hfx)
        rw [fitN_y hf] at this
        exact this
      · have m2 := hM.t7 (f1.trans f2) (k2.trans k1)
        have h := h M2 m2.2 m2.1
        have y' : (fitN W.I W.t W.nn W.nt c' : Int) = i := Classical.not_not.mp y
        rw [if_neg (by omega), fitC_at hf y' _ hc] at h
        exact h
      · rw [w32s (by omega)]
        have := ih M2 (f1.trans f2) (k2.trans k1) (fun x hx hfx => by
          by_cases z : x = c'
          · rw [z] at hfx; exact absurd hfx hf
          · exact n1 x (by omega) hfx)
        rw [fitN_n hf] at this
        exact this
  · rw [if_pos (by omega)] at h0; exact h0
end RiddleM2
