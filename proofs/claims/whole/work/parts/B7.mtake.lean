/-! AN ISLAND told: the model takes it -/
section MTake
variable {d : Nat} {M M' : jM} {Q : Option jV → jM → Prop} {W W' : kW} {Y : jY}
theorem hl_0 {s : jS} (h : s 0 9 = 0) : hl s = 0 := by
  unfold hl
  rw [h]
  decide
theorem M_take (hd : 11 ≤ d) (hM : CM M W) (hB : NB M Y) (hY : okYr Y) (ok : okY Y) (hT : Txt Y W W') {N : jM} (hN : N = si M 468 2 0) (h : ∀ M', FM M M' → CM M' W' → Q (some (vI (Y.np : Int))) M') : Call d mX11_takeIsland [vR 468] N Q := by
  obtain ⟨e, rfl⟩ := dd (d := d) (by omega)
  have hS := hM.shp
  have sN : Shp N := by rw [hN]; exact (fr_si (P := fun r => r = 468) rfl).shp hS
  obtain ⟨b20, b21, b79, b80, b81⟩ := hB
  have n20 : iv N 468 20 = (Y.np : Int) := by rw [hN, iv_si, if_neg (by omega)]; exact b20
  refine vn_takeIsland (by omega) sN (fun N1 h1 s1 N3 h3 s3 => ?_)
  have n21 : iv N1 468 21 = (Y.nt : Int) := by rw [h1, iv_si, if_neg (by omega), hN, iv_si, if_neg (by omega)]; exact b21
  rw [n20] at h1
  rw [n21] at h3
  have f3 : Fr (fun r => r = 468) M N3 := by rw [h3, h1, hN]; exact ((fr_si (P := fun r => r = 468) rfl).ps rfl).ps rfl
  have v3 : iv N3 468 2 = 0 ∧ iv N3 468 25 = (Y.np : Int) ∧ iv N3 468 26 = (Y.nt : Int) ∧ ∀ j, j ≠ 2 → j ≠ 25 → j ≠ 26 → iv N3 468 j = iv M 468 j := by
    refine ⟨?_, ?_, ?_, fun j j1 j2 j3 => ?_⟩
    · rw [h3, iv_si, if_neg (by omega), h1, iv_si, if_neg (by omega), hN, iv_si, if_pos ⟨rfl, rfl⟩]
    · rw [h3, iv_si, if_neg (by omega), h1, iv_si, if_pos ⟨rfl, rfl⟩]
    · rw [h3, iv_si, if_pos ⟨rfl, rfl⟩]
    · rw [h3, iv_si, if_neg (by omega), h1, iv_si, if_neg (by omega), hN, iv_si, if_neg (by omega)]
  -- the rules
  refine up_to (R := fun i => ∀ M1, Fr (fun r => r = 482) N3 M1 → (∀ x, x < i → iv M1 482 x = iv M 479 x) → Run (e + 1) mX11_takeIsland 18 [some (vR 468), some (vI (i : Int))] [] M1 Q) 4 ?_ (fun i hi ih M1 f1 k1 => ?_) N3 Fr.refl (fun x hx => absurd hx (Nat.not_lt_zero _))
  rotate_left
  · refine vn_takeIsland_18 (by omega) (f1.shp s3) ⟨fun z => absurd z (by omega), fun _ => ⟨⟨by omega, by omega⟩, fun N4 h4 _ => ?_⟩⟩
    rw [Int.toNat_natCast] at h4
    rw [w32s (by omega)]
    refine ih N4 (by rw [h4]; exact f1.ps rfl) (fun x hx => ?_)
    rw [h4, iv_si]
    by_cases c : x = i
    · rw [if_pos ⟨rfl, c⟩, f1.eiv (by decide), f3.eiv (by decide), c]
    · rw [if_neg (by omega)]; exact k1 x (by omega)
  intro M4 f4 k4
  have s4 := f4.shp s3
  refine vn_takeIsland_18 (by omega) s4 ⟨fun _ => ?_, fun z => absurd (by decide) z⟩
  -- the persons
  refine up_to (R := fun i => ∀ M1, Fr (fun r => r = 483) M4 M1 → (∀ x, x < i → iv M1 483 x = iv M 480 x) → Run (e + 1) mX11_takeIsland 43 [some (vR 468), some (vI (i : Int))] [] M1 Q) 24 ?_ (fun i hi ih M1 f1 k1 => ?_) M4 Fr.refl (fun x hx => absurd hx (Nat.not_lt_zero _))
  rotate_left
  · refine vn_takeIsland_43 (by omega) (f1.shp s4) ⟨fun z => absurd z (by omega), fun _ => ⟨⟨by omega, by omega⟩, fun N4 h4 _ => ?_⟩⟩
    rw [Int.toNat_natCast] at h4
    rw [w32s (by omega)]
    refine ih N4 (by rw [h4]; exact f1.ps rfl) (fun x hx => ?_)
    rw [h4, iv_si]
    by_cases c : x = i
    · rw [if_pos ⟨rfl, c⟩, f1.eiv (by decide), f4.eiv (by decide), f3.eiv (by decide), c]
    · rw [if_neg (by omega)]; exact k1 x (by omega)
  intro M5 f5 k5
  have s5 := f5.shp s4
  refine vn_takeIsland_43 (by omega) s5 ⟨fun _ => ?_, fun z => absurd (by decide) z⟩
  -- the thoughts
  refine up_to (R := fun i => ∀ M1, Fr (fun r => r = 484) M5 M1 → (∀ x, x < i → iv M1 484 x = iv M 481 x) → Run (e + 1) mX11_takeIsland 69 [some (vR 468), some (vI (i : Int))] [] M1 Q) 48 ?_ (fun i hi ih M1 f1 k1 => ?_) M5 Fr.refl (fun x hx => absurd hx (Nat.not_lt_zero _))
  rotate_left
  · refine vn_takeIsland_69 (by omega) (f1.shp s5) ⟨fun z => absurd z (by omega), fun _ => ⟨⟨by omega, by omega⟩, fun N4 h4 _ => ?_⟩⟩
    rw [Int.toNat_natCast] at h4
    rw [w32s (by omega)]
    refine ih N4 (by rw [h4]; exact f1.ps rfl) (fun x hx => ?_)
    rw [h4, iv_si]
    by_cases c : x = i
    · rw [if_pos ⟨rfl, c⟩, f1.eiv (by decide), f5.eiv (by decide), f4.eiv (by decide), f3.eiv (by decide), c]
    · rw [if_neg (by omega)]; exact k1 x (by omega)
  intro M6 f6 k6
  have s6 := f6.shp s5
  refine vn_takeIsland_69 (by omega) s6 ⟨fun _ => ?_, fun z => absurd (by decide) z⟩
  -- the state laid out anew
  refine up_to (R := fun i => ∀ M1, Fr (fun r => r = 486) M6 M1 → (∀ x, x < i → iv M1 486 x = 0) → Run (e + 1) mX11_takeIsland 95 [some (vR 468), some (vI (i : Int))] [] M1 Q) 352 ?_ (fun i hi ih M1 f1 k1 => ?_) M6 Fr.refl (fun x hx => absurd hx (Nat.not_lt_zero _))
  rotate_left
  · refine vn_takeIsland_95 (by omega) (f1.shp s6) ⟨fun z => absurd z (by omega), fun _ => ⟨⟨by omega, by omega⟩, fun N4 h4 _ => ?_⟩⟩
    rw [Int.toNat_natCast] at h4
    rw [w32s (by omega)]
    refine ih N4 (by rw [h4]; exact f1.ps rfl) (fun x hx => ?_)
    rw [h4, iv_si]
    by_cases c : x = i
    · rw [if_pos ⟨rfl, c⟩]
    · rw [if_neg (by omega)]; exact k1 x (by omega)
  intro M7 f7 k7
  have s7 := f7.shp s6
  -- what M7 is
  have j7 : ∀ j, iv M7 468 j = iv N3 468 j := fun j => by rw [f7.eiv (by decide), f6.eiv (by decide), f5.eiv (by decide), f4.eiv (by decide)]
  have r482 : ∀ x, x < 4 → iv M7 482 x = iv M 479 x := fun x hx => by rw [f7.eiv (by decide), f6.eiv (by decide), f5.eiv (by decide)]; exact k4 x hx
  have r483 : ∀ x, x < 24 → iv M7 483 x = iv M 480 x := fun x hx => by rw [f7.eiv (by decide), f6.eiv (by decide)]; exact k5 x hx
  have r484 : ∀ x, x < 48 → iv M7 484 x = iv M 481 x := fun x hx => by rw [f7.eiv (by decide)]; exact k6 x hx
  have f37 : Fr (fun r => (482 ≤ r ∧ r ≤ 484) ∨ r = 486) N3 M7 := (f4.mono (by intro r hr; omega)).trans ((f5.mono (by intro r hr; omega)).trans ((f6.mono (by intro r hr; omega)).trans (f7.mono (by intro r hr; omega))))
  have hn8 := hY.2.2.2.1
  have hn12 := hY.2.2.2.2
  have th : ∀ k c, k < Y.nt → c < 4 → iv M7 484 (4 * k + c) = Y.th k c := fun k c hk hc => by rw [r484 _ (by omega)]; exact b81 k hk c hc
  have pr : ∀ p c, p < Y.np → c < 3 → iv M7 483 (3 * p + c) = Y.pr p c := fun p c hp hc => by rw [r483 _ (by omega)]; exact b80 p hp c hc
  have rl : ∀ c, c < 4 → iv M7 482 c = Y.rl c := fun c hc => by rw [r482 c hc]; exact b79 c hc
  have e25 : iv M7 468 25 = (Y.np : Int) := by rw [j7]; exact v3.2.1
  have e26 : iv M7 468 26 = (Y.nt : Int) := by rw [j7]; exact v3.2.2.1
  have htl := tl_ok hY ok (b := iv M7 483) (w := iv M7 482 0) (th := iv M7 484) th
  refine vn_takeIsland_95 (by omega) s7 ⟨fun _ => m_layTold (by omega) s7 hn8 e25 e26 htl (fun M8 f8 r8 => ⟨rfl, f8.shp s7, fun N1' g1 _ N2 g2 _ N3' g3 _ N4 g4 s4' => ?_⟩), fun z => absurd (by decide) z⟩
  have s8 := f8.shp s7
  have f8' : Fr (fun r => r = 486) M7 M8 := f8.1.mono (fun r hr => hr)
  rw [show iv M8 482 3 = Y.rl 3 by rw [f8'.eiv (by decide)]; exact rl 3 (by decide)] at g1
  have fN : Fr (fun r => r = 468 ∨ r = 486) M8 N4 := by
    rw [g4, g3, g2, g1]
    exact (((fr_si (P := fun r => r = 468 ∨ r = 486) (Or.inr rfl)).ps (Or.inl rfl)).ps (Or.inl rfl)).ps (Or.inl rfl)
  have q486 : ∀ x, iv N4 486 x = if x = 169 then Y.rl 3 else iv M8 486 x := fun x => by
    rw [g4, iv_si, if_neg (by omega), g3, iv_si, if_neg (by omega), g2, iv_si, if_neg (by omega), g1, iv_si]
    by_cases c : x = 169
    · rw [if_pos ⟨rfl, c⟩, if_pos c]
    · rw [if_neg (by omega), if_neg c]
  have q468 : iv N4 468 42 = 0 ∧ iv N4 468 33 = 0 ∧ iv N4 468 46 = 0 ∧ ∀ j, j ≠ 42 → j ≠ 33 → j ≠ 46 → iv N4 468 j = iv N3 468 j := by
    refine ⟨?_, ?_, ?_, fun j j1 j2 j3 => ?_⟩
    · rw [g4, iv_si, if_neg (by omega), g3, iv_si, if_neg (by omega), g2, iv_si, if_pos ⟨rfl, rfl⟩]
    · rw [g4, iv_si, if_neg (by omega), g3, iv_si, if_pos ⟨rfl, rfl⟩]
    · rw [g4, iv_si, if_pos ⟨rfl, rfl⟩]
    · rw [g4, iv_si, if_neg (by omega), g3, iv_si, if_neg (by omega), g2, iv_si, if_neg (by omega), g1, iv_si, if_neg (by omega), f8'.eiv (by decide), j7]
  have fA : Fr (fun r => r = 468 ∨ (482 ≤ r ∧ r ≤ 484) ∨ r = 486) M N4 := (f3.mono (by intro r hr; omega)).trans ((f37.mono (by intro r hr; omega)).trans ((f8'.mono (by intro r hr; omega)).trans (fN.mono (by intro r hr; omega))))
  have jA : ∀ j, j ≠ 2 → j ≠ 25 → j ≠ 26 → j ≠ 42 → j ≠ 33 → j ≠ 46 → iv N4 468 j = iv M 468 j := fun j j1 j2 j3 j4 j5 j6 => (q468.2.2.2 j j4 j5 j6).trans (v3.2.2.2 j j1 j2 j3)
  have c25 : iv N4 468 25 = (Y.np : Int) := (q468.2.2.2 25 (by decide) (by decide) (by decide)).trans v3.2.1
  have c26 : iv N4 468 26 = (Y.nt : Int) := (q468.2.2.2 26 (by decide) (by decide) (by decide)).trans v3.2.2.1
  have c2 : iv N4 468 2 = 0 := (q468.2.2.2 2 (by decide) (by decide) (by decide)).trans v3.1
  have e48 : ∀ r, 482 ≤ r → r ≤ 484 → iv N4 r = iv M7 r := fun r h1 h2 => by rw [fN.eiv (by omega), f8'.eiv (by omega)]
  rw [c25]
  obtain ⟨dp, mi, t, rfl, t1, t2, t3, t4, t5, t6, t7⟩ := hT
  -- the state as it is told
  have tl : ∀ f j, 1 ≤ f → f ≤ 4 → tlF (iv M7 484) Y.nt (tl0 (iv M7 483) (iv M7 482 0)) f j = tlF (thY Y) Y.nt (tl0 (fun _ => 0) 0) f j := by
    intro f j h1 h2
    have : tlF (iv M7 484) Y.nt (tl0 (iv M7 483) (iv M7 482 0)) = tlF (thY Y) Y.nt (tl0 (iv M7 483) (iv M7 482 0)) := tlF_th Y.nt (fun x hx => by
      have := th (x / 4) (x % 4) (by omega) (by omega)
      rw [show 4 * (x / 4) + x % 4 = x by omega] at this
      exact this)
    rw [this]
    exact tlF_cg tl0_14 Y.nt f j h1 h2
  have mrf : MRf (iv N4 486) Y.np t := by
    obtain ⟨r1, r2, r3, r4, r5⟩ := r8
    refine ⟨fun j hj => ?_, fun p hp => ?_, ?_, ?_, ?_⟩
    · obtain ⟨u1, u2⟩ := t7 j hj
      obtain ⟨z1, z2⟩ := r1 j hj
      rw [tl 1 j (by decide) (by decide), ← u1] at z1 z2
      rw [q486, q486, q486, q486, q486, if_neg (by omega), if_neg (by omega), if_neg (by omega), if_neg (by omega), if_neg (by omega)]
      refine ⟨z1, fun hj1 => ?_⟩
      obtain ⟨y1, y2, y3, y4, y5⟩ := z2 hj1
      obtain ⟨u3, u4, u5⟩ := u2 hj1
      rw [tl 2 j (by decide) (by decide), ← u3] at y3
      rw [tl 3 j (by decide) (by decide), ← u4] at y4
      rw [tlF_4] at y5
      exact ⟨y1, y2, y3, y4, y5.trans u5.symm⟩
    · have := r2 p hp
      rw [tlF_o (Or.inr (by decide))] at this
      rw [q486, if_neg (by omega), this]
      have e6 : tl0 (iv M7 483) (iv M7 482 0) 6 p = iv M7 483 (3 * p) := by unfold tl0; rw [if_neg (by decide), if_pos rfl]
      have h0 := pr p 0 hp (by decide)
      rw [Nat.add_zero] at h0
      rw [e6, h0]
      exact (t2 p hp).2.2.symm
    · rw [tlF_o (Or.inl rfl)] at r3
      rw [q486, if_neg (by decide), r3]
      have e7 : tl0 (iv M7 483) (iv M7 482 0) 0 7 = iv M7 482 0 := by unfold tl0; rw [if_neg (by decide), if_neg (by decide), if_pos ⟨rfl, rfl⟩]
      rw [e7, rl 0 (by decide)]
      exact t4.symm
    · rw [q486, if_pos rfl]
      exact t5.symm
    · rw [tlF_o (Or.inl rfl)] at r5
      rw [q486, if_neg (by decide), r5]
      have e9 : tl0 (iv M7 483) (iv M7 482 0) 0 9 = 0 := by unfold tl0; rw [if_neg (by decide), if_neg (by decide), if_neg (by omega)]
      rw [e9]
      exact t6.symm
  have mlg : MLg (iv N4 486) t := by
    have h0 := hl_0 t6
    refine ⟨?_, fun i w hi _ => absurd hi (by rw [h0]; omega)⟩
    rw [h0, q486, if_neg (by decide), f8.2 171 (by decide)]
    exact k7 171 (by decide)
  have hM0 := hM
  obtain ⟨a0, a1, a2, a3, a4, a5, a6, a7, a8, a9⟩ := hM
  have eA : ∀ r, ¬ (r = 468 ∨ (482 ≤ r ∧ r ≤ 484) ∨ r = 486) → iv N4 r = iv M r := fun r hr => fA.eiv hr
  have m7 : mlF N4 = mlF M := by
    funext k
    unfold mlF mSg mVl mRow
    rw [eA 470 (by omega), eA 471 (by omega), eA 473 (by omega), eA 474 (by omega), eA 475 (by omega), eA 476 (by omega)]
  have m8 : MLawW N4 = MLawW M := by
    funext k
    unfold MLawW mSg mVl mRow
    rw [eA 470 (by omega), eA 471 (by omega), eA 473 (by omega), eA 474 (by omega), eA 475 (by omega), eA 476 (by omega)]
  have j30 : iv N4 468 30 = iv M 468 30 := jA 30 (by decide) (by decide) (by decide) (by decide) (by decide) (by decide)
  have rl4 : ∀ c, c < 4 → iv N4 482 c = Y.rl c := fun c hc => by rw [e48 482 (by decide) (by decide)]; exact rl c hc
  have pr4 : ∀ p c, p < Y.np → c < 3 → iv N4 483 (3 * p + c) = Y.pr p c := fun p c hp hc => by rw [e48 483 (by decide) (by decide)]; exact pr p c hp hc
  refine h N4 (fA.mono (fun r hr => by omega)) ⟨fA.shp a0, ⟨c25, fun p hp => ?_, rl4 1 (by decide), rl4 2 (by decide), ?_⟩, ⟨fun _ => mrf, mlg, ?_, q468.2.1, Nat.zero_le _, fun k hk => absurd hk (Nat.not_lt_zero _)⟩, ⟨q468.2.2.1, fun u hu => absurd (show (none : Option jS) = some u from hu) (by simp)⟩, fun _ => ?_, ⟨q468.1, fun k hk => absurd hk (Nat.not_lt_zero _)⟩, ⟨c2, fun i hi => absurd hi (Nat.not_lt_zero _)⟩, ?_, ?_, ?_⟩
  · obtain ⟨u1, u2, u3⟩ := t2 p hp
    exact ⟨(pr4 p 1 hp (by decide)).trans u1.symm, (pr4 p 2 hp (by decide)).trans u2.symm⟩
  · show LawIM N4 W.I.lw
    have i5 := a1.2.2.2.2
    unfold LawIM at i5 ⊢
    rw [j30, m7, m8]
    exact i5
  · exact mrf.2.2.2.2
  · have htl4 : tlOk (iv N4 484) (iv N4 483) (iv N4 482 0) Y.np Y.nt := by rw [e48 484 (by decide) (by decide), e48 483 (by decide) (by decide), e48 482 (by decide) (by decide)]; exact htl
    refine ⟨Y.nt, hn12, c26, htl4.2, fun j hj => ?_, fun p hp => ?_, ?_, t6⟩
    · rw [e48 484 (by decide) (by decide), e48 483 (by decide) (by decide), e48 482 (by decide) (by decide), tl 1 j (by decide) (by decide), tl 2 j (by decide) (by decide), tl 3 j (by decide) (by decide)]
      exact t7 j hj
    · have := pr4 p 0 hp (by decide)
      rw [Nat.add_zero] at this
      rw [this]
      exact (t2 p hp).2.2
    · rw [rl4 0 (by decide)]; exact t4
  · obtain ⟨l1, l2, l3⟩ := a7
    refine ⟨(jA 13 (by decide) (by decide) (by decide) (by decide) (by decide) (by decide)).trans l1, j30.trans l2, fun k hk => ?_⟩
    rw [m7, m8]
    exact l3 k hk
  · unfold RefM at a8 ⊢
    rw [eA 487 (by omega)]
    exact a8
  · exact (jA 31 (by decide) (by decide) (by decide) (by decide) (by decide) (by decide)).trans a9
end MTake
