/-! THE TAPE is fed: the model -/
/-- the model's cells of the tape and of the island reader -/
def Rm (r : Nat) : Prop := r = 468 ∨ r = 469 ∨ (479 ≤ r ∧ r ≤ 481) ∨ r = 485
def Rj (j : Nat) : Prop := j = 2 ∨ j = 3 ∨ j = 4 ∨ j = 20 ∨ j = 21
section MFeed
variable {d : Nat} {M M' : jM} {Q : Option jV → jM → Prop} {W : kW} {P : Nat → Prop}
theorem CM.tape {u : jTp} (h : CM M W) (hf : Fr P M M') (hp : ∀ r, P r → Rm r) (hj : ∀ j, ¬ Rj j → iv M' 468 j = iv M 468 j) (hT : TapM M' (W.setT u)) : CM M' (W.setT u) ∧ FM M M' := by
  have hfm : FM M M' := hf.mono (fun r hr => by have := hp r hr; unfold Rm at this; omega)
  obtain ⟨a0, a1, a2, a3, a4, a5, a6, a7, a8, a9⟩ := h
  have e : ∀ r, ¬ Rm r → iv M' r = iv M r := fun r hr => hf.eiv (fun z => hr (hp r z))
  have k7 : mlF M' = mlF M := by
    funext k
    unfold mlF mSg mVl mRow
    rw [e 470 (by unfold Rm; omega), e 471 (by unfold Rm; omega), e 473 (by unfold Rm; omega), e 474 (by unfold Rm; omega), e 475 (by unfold Rm; omega), e 476 (by unfold Rm; omega)]
  have k8 : MLawW M' = MLawW M := by
    funext k
    unfold MLawW mSg mVl mRow
    rw [e 470 (by unfold Rm; omega), e 471 (by unfold Rm; omega), e 473 (by unfold Rm; omega), e 474 (by unfold Rm; omega), e 475 (by unfold Rm; omega), e 476 (by unfold Rm; omega)]
  refine ⟨⟨hf.shp a0, ?_, ?_, ?_, ?_, ?_, hT, ?_, ?_, ?_⟩, hfm⟩
  · obtain ⟨i1, i2, i3, i4, i5⟩ := a1
    refine ⟨by rw [hj 25 (by unfold Rj; omega)]; exact i1, fun p hp => by rw [e 483 (by unfold Rm; omega)]; exact i2 p hp, by rw [e 482 (by unfold Rm; omega)]; exact i3, by rw [e 482 (by unfold Rm; omega)]; exact i4, ?_⟩
    show LawIM M' W.I.lw
    unfold LawIM at i5 ⊢
    rw [hj 30 (by unfold Rj; omega), k7, k8]
    exact i5
  · unfold NowM PM at a2 ⊢
    rw [hj 33 (by unfold Rj; omega), e 486 (by unfold Rm; omega), e 488 (by unfold Rm; omega)]
    exact a2
  · unfold PicM at a3 ⊢
    rw [hj 46 (by unfold Rj; omega), e 498 (by unfold Rm; omega)]
    exact a3
  · unfold TolM TM at a4 ⊢
    rw [hj 26 (by unfold Rj; omega), e 484 (by unfold Rm; omega), e 483 (by unfold Rm; omega), e 482 (by unfold Rm; omega)]
    exact a4
  · unfold RidM at a5 ⊢
    rw [hj 42 (by unfold Rj; omega), e 492 (by unfold Rm; omega), e 493 (by unfold Rm; omega), e 494 (by unfold Rm; omega), e 495 (by unfold Rm; omega)]
    exact a5
  · unfold LawM at a7 ⊢
    rw [hj 13 (by unfold Rj; omega), hj 30 (by unfold Rj; omega), k7, k8]
    exact a7
  · unfold RefM at a8 ⊢
    rw [e 487 (by unfold Rm; omega)]
    exact a8
  · rw [hj 31 (by unfold Rj; omega)]
    exact a9
theorem byteK {k : Nat} : (24 : Int) - 8 * ((k % 4 : Nat) : Int) = w32 (24 - w32 (8 * ((k % 4 : Nat) : Int))) := by
  rw [w32_i (z := 8 * ((k % 4 : Nat) : Int)) (by omega) (by omega), w32_i (by omega) (by omega)]
theorem m_byteOf {x y z u v : Int} {k : Nat} (hd : 2 ≤ d) (hS : Shp M) (hk : k < 20) (hx : ∀ i, i32 (argF x y z u v i)) (h : Q (some (vI (bF (argF x y z u v) k))) M) : Call d mX11_byteOf [vI x, vI y, vI z, vI u, vI v, vI (k : Int)] M Q := by
  obtain ⟨e, rfl⟩ := dd (d := d) (by omega)
  refine vn_byteOf (by omega) hS ?_
  have e1 : (if (4 : Int) ≤ (k : Int) then (if (8 : Int) ≤ (k : Int) then (if (12 : Int) ≤ (k : Int) then (if (16 : Int) ≤ (k : Int) then v else u) else z) else y) else x) = argF x y z u v (k / 4) := by
    unfold argF
    by_cases c1 : (4 : Int) ≤ (k : Int)
    · rw [if_pos c1]
      by_cases c2 : (8 : Int) ≤ (k : Int)
      · rw [if_pos c2]
        by_cases c3 : (12 : Int) ≤ (k : Int)
        · rw [if_pos c3]
          by_cases c4 : (16 : Int) ≤ (k : Int)
          · rw [if_pos c4, show k / 4 = 4 by omega]; rfl
          · rw [if_neg c4, show k / 4 = 3 by omega]; rfl
        · rw [if_neg c3, show k / 4 = 2 by omega]; rfl
      · rw [if_neg c2, show k / 4 = 1 by omega]; rfl
    · rw [if_neg c1, show k / 4 = 0 by omega]; rfl
  have e2 : jrem (k : Int) 4 = ((k % 4 : Nat) : Int) := by rw [jrem_eq ⟨by omega, by omega⟩ ⟨by decide, by decide⟩]; omega
  rw [e1, e2, ← byteK, jbyte_s (hx _) (by omega)]
  exact h
theorem M_feed {x y z u v : Int} (hd : 8 ≤ d) (hM : CM M W) (hok : OKW W) (hx : ∀ i, i32 (argF x y z u v i)) (h : ∀ M', FM M M' → CM M' (wFeed W x y z u v).2 → Q (some (vI (wFeed W x y z u v).1)) M') : Call d mX11_feed [vR 468, vI x, vI y, vI z, vI u, vI v] M Q := by
  obtain ⟨e, rfl⟩ := dd (d := d) (by omega)
  have hS := hM.shp
  obtain ⟨t1, t2⟩ := hM.2.2.2.2.2.2.1
  have h240 := hok.2.2.2.2.2.2.2.1.1
  have c20 := cnF_in (b := bF (argF x y z u v)) 20
  unfold wFeed at h
  refine vn_feed (by omega) hS ?_
  refine up_to (R := fun k => Run (e + 1) mX11_feed 6 [some (vR 468), some (vI x), some (vI y), some (vI z), some (vI u), some (vI v), some (vI (cnF (bF (argF x y z u v)) k : Nat)), some (vI (k : Int)), none] [] M Q) 20 ?_ ?_
  · refine vn_feed_6 (by omega) hS ⟨fun _ => ?_, fun c => absurd (by decide) c⟩
    rw [t1, w32_i (by omega) (by omega)]
    refine ⟨fun c => ?_, fun c => ?_⟩
    · rw [if_pos (by omega)] at h
      refine up_to (R := fun k => ∀ (M1 : jM) (l8 : Option jV), Fr (fun r => r = 468 ∨ r = 469) M M1 → (∀ j, j ≠ 2 → iv M1 468 j = iv M 468 j) → iv M1 468 2 = ((apF (bF (argF x y z u v)) k (W.tl, W.tb)).1 : Int) → (∀ i, i < (apF (bF (argF x y z u v)) k (W.tl, W.tb)).1 → iv M1 469 i = (apF (bF (argF x y z u v)) k (W.tl, W.tb)).2 i) → Run (e + 1) mX11_feed 62 [some (vR 468), some (vI x), some (vI y), some (vI z), some (vI u), some (vI v), some (vI (cnF (bF (argF x y z u v)) 20 : Nat)), some (vI (k : Int)), l8] [] M1 Q) 20 ?_ ?_ M none Fr.refl (fun _ _ => rfl) t1 t2
      · intro M1 l8 f1 j1 g1 g2
        refine vn_feed_62 (by omega) (f1.shp hS) ⟨fun _ => ?_, fun c => absurd (by decide) c⟩
        have g := hM.tape (u := apF (bF (argF x y z u v)) 20 (W.tl, W.tb)) f1 (fun r hr => by unfold Rm; omega) (fun j hj => j1 j (fun c => hj (Or.inl c))) ⟨g1, g2⟩
        rw [g1, apF_len]
        exact h M1 g.2 g.1
      · intro k hk ih M1 l8 f1 j1 g1 g2
        have s1 := f1.shp hS
        have hlen := apF_len (b := bF (argF x y z u v)) (T := (W.tl, W.tb)) k
        have hlen : (apF (bF (argF x y z u v)) k (W.tl, W.tb)).1 = W.tl + cnF (bF (argF x y z u v)) k := hlen
        refine vn_feed_62 (by omega) s1 ⟨fun c => absurd c (by omega), fun _ => m_byteOf (by omega) s1 hk hx ⟨_, rfl, s1, fun c => ?_, fun c => ?_⟩⟩
        · have ea : apF (bF (argF x y z u v)) (k + 1) (W.tl, W.tb) = apF (bF (argF x y z u v)) k (W.tl, W.tb) := by simp only [apF]; rw [if_pos c]
          rw [w32s (by omega)]
          exact ih M1 _ f1 j1 (by rw [ea]; exact g1) (by rw [ea]; exact g2)
        · have hm := cnF_mono (b := bF (argF x y z u v)) (m := k + 1) (19 - k)
          have hc1 : cnF (bF (argF x y z u v)) (k + 1) = cnF (bF (argF x y z u v)) k + 1 := by simp only [cnF]; rw [if_neg c]
          rw [show k + 1 + (19 - k) = 20 by omega] at hm
          refine ⟨⟨by omega, by omega⟩, fun N1 h1 _ N2 h2 _ => ?_⟩
          have ea : apF (bF (argF x y z u v)) (k + 1) (W.tl, W.tb) = ((apF (bF (argF x y z u v)) k (W.tl, W.tb)).1 + 1, fun i => if i = (apF (bF (argF x y z u v)) k (W.tl, W.tb)).1 then bF (argF x y z u v) k else (apF (bF (argF x y z u v)) k (W.tl, W.tb)).2 i) := by simp only [apF]; rw [if_neg c]
          rw [g1, Int.toNat_natCast] at h1
          have i1 : iv N1 468 2 = ((apF (bF (argF x y z u v)) k (W.tl, W.tb)).1 : Int) := by rw [h1, iv_si, if_neg (by omega)]; exact g1
          rw [i1, w32s (by omega)] at h2
          rw [w32s (by omega)]
          refine ih N2 _ (by rw [h2, h1]; exact (f1.ps (Or.inr rfl)).ps (Or.inl rfl)) (fun j hj => by rw [h2, iv_si, if_neg (by omega), h1, iv_si, if_neg (by omega)]; exact j1 j hj) (by rw [ea, h2, iv_si, if_pos ⟨rfl, rfl⟩]) (fun i hi => ?_)
          rw [ea] at hi ⊢
          have hi : i < (apF (bF (argF x y z u v)) k (W.tl, W.tb)).1 + 1 := hi
          show _ = if i = (apF (bF (argF x y z u v)) k (W.tl, W.tb)).1 then bF (argF x y z u v) k else (apF (bF (argF x y z u v)) k (W.tl, W.tb)).2 i
          rw [h2, iv_si, if_neg (by omega), h1, iv_si]
          by_cases q : i = (apF (bF (argF x y z u v)) k (W.tl, W.tb)).1
          · rw [if_pos q, if_pos ⟨rfl, q⟩]
          · rw [if_neg q, if_neg (by omega)]
            exact g2 i (by omega)
    · rw [if_neg (by omega)] at h
      exact h M Fr.refl hM
  · intro k hk ih
    have hck := cnF_in (b := bF (argF x y z u v)) k
    refine vn_feed_6 (by omega) hS ⟨fun c => absurd c (by omega), fun _ => m_byteOf (by omega) hS hk hx ⟨_, rfl, hS, ?_⟩⟩
    have e2 : w32 (((cnF (bF (argF x y z u v)) k : Nat) : Int) + (if bF (argF x y z u v) k = 0 then 0 else 1)) = ((cnF (bF (argF x y z u v)) (k + 1) : Nat) : Int) := by
      simp only [cnF]
      by_cases c : bF (argF x y z u v) k = 0
      · rw [if_pos c, if_pos c, w32_i (by omega) (by omega)]; omega
      · rw [if_neg c, if_neg c, w32_i (by omega) (by omega)]; omega
    rw [e2, w32s (by omega)]
    exact ih
theorem M_end {n : Int} (hd : 8 ≤ d) (hM : CM M W) (hok : OKW W) (h : ∀ M', FM M M' → CM M' (wEnd W n).2 → Q (some (vI (wEnd W n).1)) M') : Call d mX11_end [vR 468, vI n] M Q := by
  obtain ⟨e, rfl⟩ := dd (d := d) (by omega)
  have hS := hM.shp
  obtain ⟨t1, t2⟩ := hM.2.2.2.2.2.2.1
  unfold wEnd at h
  refine vn_end (by omega) hS ?_
  rw [t1]
  refine ⟨fun c => ?_, fun c => ⟨fun c2 N hN _ => ?_, fun c2 => ?_⟩⟩
  · rw [if_neg (by omega)] at h; exact h M Fr.refl hM
  · rw [if_pos ⟨by omega, c2⟩] at h
    have fN : Fr (fun r => r = 468) M N := by rw [hN]; exact fr_si rfl
    have g := hM.tape (u := (n.toNat, W.tb)) fN (fun r hr => by unfold Rm; omega) (fun j hj => by rw [hN, iv_si, if_neg (fun c => hj (Or.inl c.2))]) ⟨by rw [hN, iv_si, if_pos ⟨rfl, rfl⟩]; show n = ((n.toNat : Nat) : Int); omega, fun i hi => by
      have hi : i < n.toNat := hi
      rw [fN.eiv (by decide)]; exact t2 i (by omega)⟩
    exact h N g.2 g.1
  · rw [if_neg (by omega)] at h; exact h M Fr.refl hM
end MFeed
