/-! THE RIDDLE: of the model, what is seen -/
section MSeen
variable {d : Nat} {M M' : jM} {Q : Option jV → jM → Prop} {W : kW} {P J : Nat → Prop}
theorem CM.rid {u : Nat × (Nat → Nat → Int)} (h : CM M W) (hf : F4 P J M M') (hp : ∀ r, P r → 492 ≤ r ∧ r ≤ 495) (hj : ∀ j, J j → j = 42) (hR : RidM M' (W.setN u)) : CM M' (W.setN u) ∧ FM M M' := by
  have hfm : FM M M' := hf.1.mono (fun r hr => by
    rcases hr with z | z
    · have := hp r z; omega
    · omega)
  obtain ⟨a0, a1, a2, a3, a4, a5, a6, a7, a8, a9⟩ := h
  have e : ∀ r, ¬ (492 ≤ r ∧ r ≤ 495) ∧ r ≠ 468 → iv M' r = iv M r := fun r hr => hf.eiv ⟨fun z => hr.1 (hp r z), hr.2⟩
  have e4 : ∀ j, j ≠ 42 → iv M' 468 j = iv M 468 j := fun j hr => (hf.2 j (fun z => hr (hj j z))).1
  refine ⟨⟨hf.shp a0, ?_, ?_, ?_, ?_, hR, ?_, ?_, ?_, ?_⟩, hfm⟩
  · exact hf.im a1 (fun r hr z => by have := hp r z; omega) (fun z => by have := hj _ z; omega) (fun z => by have := hj _ z; omega)
  · exact NowM.f4 (W := W) a2 hf (fun r z => by have := hp r z; omega) (fun j z => by have := hj j z; omega)
  · unfold PicM at a3 ⊢
    rw [e4 46 (by omega), e 498 (by omega)]
    exact a3
  · unfold TolM TM at a4 ⊢
    rw [e4 26 (by omega), e 484 (by omega), e 483 (by omega), e 482 (by omega)]
    exact a4
  · unfold TapM at a6 ⊢
    rw [e4 2 (by omega), e 469 (by omega)]
    exact a6
  · unfold LawM MLawW mlF mSg mVl mRow at a7 ⊢
    rw [e4 13 (by omega), e4 30 (by omega), e 470 (by omega), e 471 (by omega), e 473 (by omega), e 474 (by omega), e 475 (by omega), e 476 (by omega)]
    exact a7
  · unfold RefM at a8 ⊢
    rw [e 487 (by omega)]
    exact a8
  · rw [e4 31 (by omega)]
    exact a9
theorem M_seen {p n v mo : Int} (hd : 8 ≤ d) (hM : CM M W) (hok : OKW W) (hmo : mo = 0 ∨ mo = 1) (h : ∀ M', FM M M' → CM M' (wSeen W p n v mo).2 → Q (some (vI (wSeen W p n v mo).1)) M') : Call d mX11_seen [vR 468, vI p, vI n, vI v, vI mo] M Q := by
  obtain ⟨e, rfl⟩ := dd (d := d) (by omega)
  have hS := hM.shp
  have hn8 := hok.wi.1
  have hr : ¬ (0 ≤ p ∧ p < W.I.np ∧ 0 ≤ n ∧ n ≤ 8 ∧ 0 ≤ v ∧ v ≤ 9999 ∧ W.nn < 10) → Q (some (vI (-1))) M := fun c => by
    have h0 := h M Fr.refl
    unfold wSeen at h0
    rw [if_neg c] at h0
    exact h0 hM
  obtain ⟨b1, b2⟩ := hM.2.2.2.2.2.1
  have hn10 := hok.2.2.2.2.2.2.1.1
  refine vn_seen (by omega) hS ?_
  rw [hM.np, w32np hn8, fIn_0, fIn_0, fIn_0, b1]
  refine ⟨fun c => hr (by omega), fun c => ⟨fun c2 => hr (by omega), fun c2 => ⟨fun c3 => hr (by omega), fun c3 => ⟨fun c4 => ⟨⟨by omega, by omega⟩, fun N1 h1 _ => ?_⟩, fun c4 => hr (by omega)⟩⟩⟩⟩
  have c6 : W.nn < 10 := by omega
  rw [Int.toNat_natCast] at h1
  have i1 : iv N1 468 42 = (W.nn : Int) := by rw [h1, iv_si, if_neg (by omega), b1]
  rw [i1]
  refine ⟨⟨by omega, by omega⟩, fun N2 h2 _ => ?_⟩
  rw [Int.toNat_natCast] at h2
  have i2 : iv N2 468 42 = (W.nn : Int) := by rw [h2, iv_si, if_neg (by omega), i1]
  rw [i2]
  refine ⟨⟨by omega, by omega⟩, fun N3 h3 _ => ?_⟩
  rw [Int.toNat_natCast] at h3
  have i3 : iv N3 468 42 = (W.nn : Int) := by rw [h3, iv_si, if_neg (by omega), i2]
  rw [i3]
  refine ⟨⟨⟨by omega, by omega⟩, hmo⟩, fun N4 h4 _ N5 h5 _ => ?_⟩
  rw [Int.toNat_natCast] at h4
  have i4 : iv N4 468 42 = (W.nn : Int) := by rw [h4, iv_si, if_neg (by omega), i3]
  rw [i4, w32s (by omega)] at h5
  have i5 : iv N5 468 42 = ((W.nn + 1 : Nat) : Int) := by rw [h5, iv_si, if_pos ⟨rfl, rfl⟩]
  unfold wSeen at h
  rw [if_pos (by omega)] at h
  rw [i5]
  have hf : F4 (fun r => 492 ≤ r ∧ r ≤ 495) (fun j => j = 42) M N5 := by
    rw [h5, h4, h3, h2, h1]
    exact ((((F4.refl.ps ⟨by decide, by decide⟩ (by decide)).ps ⟨by decide, by decide⟩ (by decide)).ps ⟨by decide, by decide⟩ (by decide)).ps ⟨by decide, by decide⟩ (by decide)).pj rfl
  have g := hM.rid (u := (W.nn + 1, fun k i => if k = W.nn then (if i = 0 then p else if i = 1 then n else if i = 2 then v else mo) else W.nt k i)) hf (fun r hr => hr) (fun j hj => hj) ⟨i5, fun k hk => ?_⟩
  · exact h N5 g.2 g.1
  · have hk : k < W.nn + 1 := hk
    show iv N5 492 k = (if k = W.nn then p else W.nt k 0) ∧ iv N5 493 k = (if k = W.nn then n else W.nt k 1) ∧ iv N5 494 k = (if k = W.nn then v else W.nt k 2) ∧ iv N5 495 k = (if k = W.nn then mo else W.nt k 3)
    have up : ∀ (A B : jM) (r j : Nat) (x : Int), B = si A r j x → ∀ s i : Nat, iv B s i = if s = r ∧ i = j then x else iv A s i := fun A B r j x hB s i => by rw [hB, iv_si]
    have u1 := up _ _ _ _ _ h1
    have u2 := up _ _ _ _ _ h2
    have u3 := up _ _ _ _ _ h3
    have u4 := up _ _ _ _ _ h4
    have u5 := up _ _ _ _ _ h5
    have v1 : iv N5 492 k = if k = W.nn then p else iv M 492 k := by rw [u5, if_neg (by omega), u4, if_neg (by omega), u3, if_neg (by omega), u2, if_neg (by omega), u1]; simp
    have v2 : iv N5 493 k = if k = W.nn then n else iv M 493 k := by rw [u5, if_neg (by omega), u4, if_neg (by omega), u3, if_neg (by omega), u2]; simp [u1]
    have v3 : iv N5 494 k = if k = W.nn then v else iv M 494 k := by rw [u5, if_neg (by omega), u4, if_neg (by omega), u3]; simp [u1, u2]
    have v4 : iv N5 495 k = if k = W.nn then mo else iv M 495 k := by rw [u5, if_neg (by omega), u4]; simp [u1, u2, u3]
    rw [v1, v2, v3, v4]
    by_cases z : k = W.nn
    · rw [if_pos z, if_pos z, if_pos z, if_pos z, if_pos z, if_pos z, if_pos z, if_pos z]
      exact ⟨rfl, rfl, rfl, rfl⟩
    · rw [if_neg z, if_neg z, if_neg z, if_neg z, if_neg z, if_neg z, if_neg z, if_neg z]
      exact b2 k (by omega)
end MSeen
