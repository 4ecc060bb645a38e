/-! THE MODEL: what a law says; masses, weights -/
def MLawW (M : jM) (h : Nat) : Prop := 0 ≤ iv M 473 h ∧ iv M 473 h ≤ 64 ∧ ∀ k : Nat, (k : Int) < iv M 473 h → ∃ f s e : Nat, mRow M 474 h k = f ∧ mRow M 475 h k = s ∧ mRow M 476 h k = e ∧ f ≤ s ∧ s ≤ e ∧ e ≤ 240 ∧ (f = s ∨ scC (mSg M h) (mVl M h) (s - f) f [] = some [true]) ∧ scC (mSg M h) (mVl M h) (e - s) s [] = some [false] ∧ ∀ i, i < e → 0 ≤ iv M 470 (520 * h + i) ∧ iv M 470 (520 * h + i) ≤ 11
def mlF (M : jM) (h : Nat) (L : Nat → Int) : Int := wC (mSg M h) (mVl M h) (mRow M 474 h) (mRow M 475 h) (mRow M 476 h) L (iv M 473 h).toNat 0
def LawIM (M : jM) (L : Option ((Nat → Int) → Int)) : Prop := match L with
  | none => iv M 468 30 = -1
  | some F => ∃ h : Nat, iv M 468 30 = (h : Int) ∧ h < 4 ∧ MLawW M h ∧ ∀ l : Nat → Int, (∀ i, i < 6 → -1000000 ≤ l i ∧ l i ≤ 1000000) → mlF M h l = F l
def IM (M : jM) (I : jI) : Prop := iv M 468 25 = (I.np : Int) ∧ (∀ p, p < I.np → iv M 483 (3 * p + 1) = I.dp p ∧ iv M 483 (3 * p + 2) = I.mi p) ∧ iv M 482 1 = I.gr ∧ iv M 482 2 = I.br ∧ LawIM M I.lw
def MR (M : jM) (n : Nat) (s : jS) : Prop := (∀ j, j < 32 → (s 1 j = -1 → iv M 486 (5 * j) = 0) ∧ (s 1 j ≠ -1 → iv M 486 (5 * j) = 1 ∧ iv M 486 (5 * j + 1) = s 1 j ∧ iv M 486 (5 * j + 2) = s 2 j ∧ iv M 486 (5 * j + 3) = s 3 j ∧ iv M 486 (5 * j + 4) = s 4 j)) ∧ (∀ p, p < n → iv M 486 (160 + p) = s 6 p) ∧ iv M 486 168 = s 0 7 ∧ iv M 486 169 = s 0 8 ∧ iv M 486 170 = s 0 9
/-- what working out a law spoils in the model -/
def Mp (r : Nat) : Prop := r = 477 ∨ r = 478
theorem IM.fr {P : Nat → Prop} {M M' : jM} {I : jI} (h : IM M I) (hf : Fr P M M') (hp : ∀ r, r = 468 ∨ (470 ≤ r ∧ r ≤ 476) ∨ r = 482 ∨ r = 483 → ¬ P r) : IM M' I := by
  obtain ⟨h1, h2, h3, h4, h5⟩ := h
  have e0 := hf.eiv (hp 468 (by omega))
  have e1 := hf.eiv (hp 470 (by omega))
  have e2 := hf.eiv (hp 471 (by omega))
  have e3 := hf.eiv (hp 473 (by omega))
  have e4 := hf.eiv (hp 474 (by omega))
  have e5 := hf.eiv (hp 475 (by omega))
  have e6 := hf.eiv (hp 476 (by omega))
  unfold IM
  rw [e0, hf.eiv (hp 483 (by omega)), hf.eiv (hp 482 (by omega))]
  refine ⟨h1, h2, h3, h4, ?_⟩
  unfold LawIM at h5 ⊢
  rw [e0]
  have q1 : mSg M' = mSg M := by funext h i; unfold mSg; rw [e1]
  have q2 : mVl M' = mVl M := by funext h i; unfold mVl; rw [e2]
  have q4 : mRow M' 474 = mRow M 474 := by funext h i; unfold mRow; rw [e4]
  have q5 : mRow M' 475 = mRow M 475 := by funext h i; unfold mRow; rw [e5]
  have q6 : mRow M' 476 = mRow M 476 := by funext h i; unfold mRow; rw [e6]
  split
  · rename_i hl; rw [hl] at h5; exact h5
  · rename_i F hl
    rw [hl] at h5
    obtain ⟨h, r1, r2, r3, r4⟩ := h5
    refine ⟨h, r1, r2, ?_, ?_⟩
    · unfold MLawW at r3 ⊢
      rw [q1, q2, q4, q5, q6, e1, e3]
      exact r3
    · intro l hl2
      have := r4 l hl2
      unfold mlF at this ⊢
      rw [q1, q2, q4, q5, q6, e3]
      exact this
theorem MR.fr {P : Nat → Prop} {M M' : jM} {n : Nat} {s : jS} (h : MR M n s) (hf : Fr P M M') (hp : ¬ P 486) : MR M' n s := by
  unfold MR
  rw [hf.eiv hp]
  exact h
theorem mlF_congr {M : jM} {h : Nat} (hw : MLawW M h) {L L' : Nat → Int} (hL : ∀ i, i < 6 → L i = L' i) : mlF M h L = mlF M h L' := by
  have key : ∀ (j i : Nat), ((i + j : Nat) : Int) = iv M 473 h → wC (mSg M h) (mVl M h) (mRow M 474 h) (mRow M 475 h) (mRow M 476 h) L j i = wC (mSg M h) (mVl M h) (mRow M 474 h) (mRow M 475 h) (mRow M 476 h) L' j i := by
    intro j
    induction j with
    | zero => intro i _; rfl
    | succ j ih =>
      intro i hij
      obtain ⟨f, s, en, q3, q4, q5, q6, q7, q8, q9, q10, q11⟩ := hw.2.2 i (by omega)
      simp only [wC, q3, q4, q5, show ((s : Int) - f).toNat = s - f by omega, show ((en : Int) - s).toNat = en - s by omega, Int.toNat_natCast]
      rw [evC_congr hL (en - s) s q10, ih (i + 1) (by omega)]
      rcases q9 with q | q
      · subst q; simp
      · rw [evC_congr hL (s - f) f q]
  exact key (iv M 473 h).toNat 0 (by have := hw.1; omega)
section MCore
variable {d n : Nat} {M : jM} {Q : Option jV → jM → Prop} {I : jI} {s : jS}
theorem m_worthOf {h0 : Nat} (hd : 11 ≤ d) (hS : Shp M) (hh : h0 < 5) (hw : MLawW M h0) (hL : ∀ i, i < 6 → -1000000 ≤ iv M 477 i ∧ iv M 477 i ≤ 1000000)
    (h : ∀ M', Fr (fun r => r = 478) M M' → Q (some (vI (mlF M h0 (iv M 477)))) M') : Call d mX11_worthOf [vR 468, vI (h0 : Int)] M Q := by
  obtain ⟨e, rfl⟩ := dd (d := d) (by omega)
  refine vn_worthOf (by omega) hS ?_
  rw [w32_i (z := 140 * (h0 : Int)) (by omega) (by omega)]
  have key : ∀ (j i : Nat) (M1 : jM), ((i + j : Nat) : Int) = iv M 473 h0 → Fr (fun r => r = 478) M M1 → mlF M h0 (iv M 477) = wC (mSg M h0) (mVl M h0) (mRow M 474 h0) (mRow M 475 h0) (mRow M 476 h0) (iv M 477) j i → Run (e + 1) mX11_worthOf 6 [some (vR 468), some (vI (h0 : Int)), some (vI (140 * (h0 : Int) + i))] [] M1 Q := by
    intro j
    induction j with
    | zero =>
      intro i M1 hij hf hv
      have e3 : iv M1 473 = iv M 473 := hf.eiv (by omega)
      refine vn_worthOf_6 (by omega) (hf.shp hS) ⟨⟨by omega, by omega⟩, fun _ => ?_, fun c => absurd c (by rw [w32_i (z := 140 * (h0 : Int)) (by omega) (by omega), Int.toNat_natCast, e3, ← hij, w32_i (by have := hw.2.1; omega) (by have := hw.2.1; omega)]; omega)⟩
      have h' := h M1 hf
      rw [hv] at h'
      exact h'
    | succ j ih =>
      intro i M1 hij hf hv
      have e1 : iv M1 470 = iv M 470 := hf.eiv (by omega)
      have e2 : iv M1 471 = iv M 471 := hf.eiv (by omega)
      have e3 : iv M1 473 = iv M 473 := hf.eiv (by omega)
      have e4 : iv M1 474 = iv M 474 := hf.eiv (by omega)
      have e5 : iv M1 475 = iv M 475 := hf.eiv (by omega)
      have e6 : iv M1 476 = iv M 476 := hf.eiv (by omega)
      have e7 : iv M1 477 = iv M 477 := hf.eiv (by omega)
      have g1 : mSg M1 h0 = mSg M h0 := by funext i; unfold mSg; rw [e1]
      have g2 : mVl M1 h0 = mVl M h0 := by funext i; unfold mVl; rw [e2]
      obtain ⟨f, s, en, q3, q4, q5, q6, q7, q8, q9, q10, q11⟩ := hw.2.2 i (by omega)
      have hi : i < 64 := by have := hw.2.1; omega
      have hix : (140 * (h0 : Int) + i).toNat = 140 * h0 + i := by omega
      have a3 : iv M1 474 (140 * (h0 : Int) + i).toNat = (f : Int) := by rw [hix, e4]; exact q3
      have a4 : iv M1 475 (140 * (h0 : Int) + i).toNat = (s : Int) := by rw [hix, e5]; exact q4
      have a5 : iv M1 476 (140 * (h0 : Int) + i).toNat = (en : Int) := by rw [hix, e6]; exact q5
      have hL1 : ∀ i, i < 6 → -1000000 ≤ iv M1 477 i ∧ iv M1 477 i ≤ 1000000 := by rw [e7]; exact hL
      simp only [wC, q3, q4, q5, show ((s : Int) - f).toNat = s - f by omega, show ((en : Int) - s).toNat = en - s by omega, Int.toNat_natCast] at hv
      refine vn_worthOf_6 (by omega) (hf.shp hS) ⟨⟨by omega, by omega⟩, fun c => absurd c (by rw [w32_i (z := 140 * (h0 : Int)) (by omega) (by omega), Int.toNat_natCast, e3, ← hij, w32_i (by have := hw.2.1; omega) (by have := hw.2.1; omega)]; omega), fun _ => ⟨⟨by omega, by omega⟩, fun c => ?_, fun c => ?_⟩⟩
      · rw [a3, a4] at c
        rw [a4, a5]
        rw [if_pos (Or.inl c)] at hv
        have := m_workOut (d := e) (M := M1) (Q := fun r M' => ∃ z : Int, r = some (vI z) ∧ Shp M' ∧ Q (some (vI z)) M') (h0 := h0) (i0 := s) (n := en - s) (t' := [false]) (by omega) (hf.shp hS) hh hL1 (by omega) (fun i hi => by rw [e1]; exact q11 i (by omega)) (by rw [g1, g2]; exact q10) rfl (fun M2 hf2 => ⟨_, rfl, hf2.shp (hf.shp hS), by
          have h' := h M2 (hf.trans hf2)
          rw [hv] at h'
          rw [g1, g2, e7]
          exact h'⟩)
        rw [show s + (en - s) = en by omega] at this
        exact this
      · rw [a3, a4] at c
        rw [a3, a4]
        have q9' : scC (mSg M h0) (mVl M h0) (s - f) f [] = some [true] := by
          rcases q9 with q | q
          · exact absurd (by rw [q]) c
          · exact q
        have := m_workOut (d := e) (M := M1) (Q := fun r M' => ∃ z : Int, r = some (vI z) ∧ Shp M' ∧ (((z = (0 : Int)) → (Run (e + 1) mX11_worthOf 6 [some (vR 468), some (vI (h0 : Int)), some (vI (w32 (140 * (h0 : Int) + i + (1 : Int))))] [] M' Q)) ∧ (¬ (z = (0 : Int)) → (Call e mX11_workOut [vR 468, vI (h0 : Int), vI (iv M' 475 (140 * (h0 : Int) + i).toNat), vI (iv M' 476 (140 * (h0 : Int) + i).toNat)] M' (fun r19 M17 => ∃ z16 : Int, r19 = some (vI z16) ∧ Shp M17 ∧ (Q (some (vI z16)) M17)))))) (h0 := h0) (i0 := f) (n := s - f) (t' := [true]) (by omega) (hf.shp hS) hh hL1 (by omega) (fun i hi => by rw [e1]; exact q11 i (by omega)) (by rw [g1, g2]; exact q9') rfl (fun M2 hf2 => ⟨_, rfl, hf2.shp (hf.shp hS), by
          have f1 : iv M2 470 = iv M 470 := (hf2.eiv (by omega)).trans e1
          have f2 : iv M2 471 = iv M 471 := (hf2.eiv (by omega)).trans e2
          have f5 : iv M2 475 = iv M 475 := (hf2.eiv (by omega)).trans e5
          have f6 : iv M2 476 = iv M 476 := (hf2.eiv (by omega)).trans e6
          have f7 : iv M2 477 = iv M 477 := (hf2.eiv (by omega)).trans e7
          have k1 : mSg M2 h0 = mSg M h0 := by funext i; unfold mSg; rw [f1]
          have k2 : mVl M2 h0 = mVl M h0 := by funext i; unfold mVl; rw [f2]
          rw [g1, g2, e7]
          refine ⟨fun z0 => ?_, fun z0 => ?_⟩
          · rw [if_neg (by rintro (q | q); exact c q; exact q z0)] at hv
            rw [w32_i (z := 140 * (h0 : Int) + i + 1) (by omega) (by omega), show 140 * (h0 : Int) + i + 1 = 140 * (h0 : Int) + ((i + 1 : Nat) : Int) by omega]
            exact ih (i + 1) M2 (by omega) (hf.trans hf2) hv
          · rw [if_pos (Or.inr z0)] at hv
            rw [hix, f5, f6, show iv M 475 (140 * h0 + i) = (s : Int) from q4, show iv M 476 (140 * h0 + i) = (en : Int) from q5]
            have := m_workOut (d := e) (M := M2) (Q := fun r M' => ∃ z : Int, r = some (vI z) ∧ Shp M' ∧ Q (some (vI z)) M') (h0 := h0) (i0 := s) (n := en - s) (t' := [false]) (by omega) (hf2.shp (hf.shp hS)) hh (by rw [f7]; exact hL) (by omega) (fun i hi => by rw [f1]; exact q11 i (by omega)) (by rw [k1, k2]; exact q10) rfl (fun M3 hf3 => ⟨_, rfl, hf3.shp (hf2.shp (hf.shp hS)), by
              have h' := h M3 ((hf.trans hf2).trans hf3)
              rw [hv] at h'
              rw [k1, k2, f7]
              exact h'⟩)
            rw [show s + (en - s) = en by omega] at this
            exact this⟩)
        rw [show f + (s - f) = s by omega] at this
        exact this
  have := key (iv M 473 h0).toNat 0 M (by have := hw.1; omega) Fr.refl rfl
  simpa using this
theorem m_massOf {q i : Nat} (hd : 13 ≤ d) (hS : Shp M) (hA : IM M I) (hI : WI I) (hs : MR M I.np s) (hw : WS n s) (hq : q < I.np) (hi : i < 4) (hth : s 1 (4 * q + i) ≠ -1)
    (h : ∀ M', Fr Mp M M' → Q (some (vL (massS I s (4 * q + i)))) M') : Call d mX11_massOf [vR 468, vI (q : Int), vI (i : Int)] M Q := by
  obtain ⟨e, rfl⟩ := dd (d := d) (by omega)
  have hnp := hI.1
  obtain ⟨b1, b2, b3, b4⟩ := massF_in (I := I) (q := q) (t := s 3 (4 * q + i)) (k := s 2 (4 * q + i)) (g := s 4 (4 * q + i)) (wi := s 0 7) (ho := s 0 9) hI (by omega)
  have hdp := hI.2.1 q (by omega)
  obtain ⟨h1, h2, h3, h4, h5⟩ := hA
  obtain ⟨p1, p2⟩ := h2 q hq
  obtain ⟨w1, w2, w3, w4, w5, w6⟩ := hw
  have wj := w1 (4 * q + i) (by omega)
  obtain ⟨r1, r2, r3, r4, r5⟩ := (hs.1 (4 * q + i) (by omega)).2 hth
  have ems : massS I s (4 * q + i) = massF I q (s 3 (4 * q + i)) (s 2 (4 * q + i)) (s 4 (4 * q + i)) (s 0 7) (s 0 9) := by
    unfold massS
    rw [if_neg hth, show (4 * q + i) / 4 = q by omega]
  rw [ems] at h
  have x2 : (20 * (q : Int) + 5 * i + 2).toNat = 5 * (4 * q + i) + 2 := by omega
  have x3 : (20 * (q : Int) + 5 * i + 3).toNat = 5 * (4 * q + i) + 3 := by omega
  have x4 : (20 * (q : Int) + 5 * i + 4).toNat = 5 * (4 * q + i) + 4 := by omega
  have xp : (3 * (q : Int) + 1).toNat = 3 * q + 1 := by omega
  refine vn_massOf (by omega) hS ?_
  rw [w32_i (z := 3 * (q : Int)) (by omega) (by omega), w32_i (z := 3 * (q : Int) + 1) (by omega) (by omega), x2, x3, x4, xp]
  rw [r4, r5, w32_i (z := s 4 (4 * q + i) + 1) (by omega) (by omega), w64_i (z := 100000 * s 3 (4 * q + i)) (by omega) (by omega), jdivL_eq ⟨by omega, by omega⟩ ⟨by omega, by omega⟩]
  refine ⟨⟨⟨by omega, by omega⟩, ⟨by omega, by omega⟩⟩, by omega, fun v3 hv3 => ⟨fun c => ?_, fun c => ?_⟩⟩
  · intro v5 hv5
    have hl : I.lw = none := by
      unfold LawIM at h5
      split at h5
      · assumption
      · obtain ⟨hh, q1, _⟩ := h5; omega
    have ew : wrthF I q (s 3 (4 * q + i)) (s 2 (4 * q + i)) (s 4 (4 * q + i)) (s 0 7) (s 0 9) = v3 := by rw [hv3]; unfold wrthF; rw [hl]
    rw [ew] at b1 b2
    have e5 : v5 = fW v3 0 1000000 := by rw [hv5]; unfold fW; repeat' split
                                         all_goals omega
    rw [p1, e5, w64_i (by omega) (by omega)]
    refine ⟨⟨by omega, by omega⟩, ⟨b1, by omega⟩, fun v8 hv8 => ?_⟩
    rw [hv8]
    have := h M Fr.refl
    unfold massF at this
    rw [ew] at this
    exact this
  · intro N9 hN9 sN9 N11 hN11 sN11 N13 hN13 sN13
    refine ⟨⟨by omega, by omega⟩, fun N16 hN16 sN16 N18 hN18 sN18 N20 hN20 sN20 => ?_⟩
    cases hl : I.lw with
    | none =>
      unfold LawIM at h5
      rw [hl] at h5
      exact absurd h5 c
    | some F =>
    unfold LawIM at h5
    rw [hl] at h5
    obtain ⟨hh, q1, q2, q3, q4⟩ := h5
    have ew : wrthF I q (s 3 (4 * q + i)) (s 2 (4 * q + i)) (s 4 (4 * q + i)) (s 0 7) (s 0 9) = F (letF (s 3 (4 * q + i)) (s 2 (4 * q + i)) (s 4 (4 * q + i)) (I.dp q) (s 0 7) (s 0 9 % 24)) := by unfold wrthF; rw [hl]
    have f9 : Fr (fun r => r = 477) M N9 := by rw [hN9]; exact fr_si rfl
    have f11 : Fr (fun r => r = 477) M N11 := by rw [hN11]; exact f9.ps rfl
    have f13 : Fr (fun r => r = 477) M N13 := by rw [hN13]; exact f11.ps rfl
    have f16 : Fr (fun r => r = 477) M N16 := by rw [hN16]; exact f13.ps rfl
    have f18 : Fr (fun r => r = 477) M N18 := by rw [hN18]; exact f16.ps rfl
    have f20 : Fr (fun r => r = 477) M N20 := by rw [hN20]; exact f18.ps rfl
    have y2 : iv N9 486 (5 * (4 * q + i) + 2) = s 2 (4 * q + i) := by rw [f9.eiv (by omega)]; exact r3
    have y3 : iv N13 483 (3 * q + 1) = I.dp q := by rw [f13.eiv (by omega)]; exact p1
    have y4 : iv N16 486 168 = s 0 7 := by rw [f16.eiv (by omega)]; exact hs.2.2.1
    have y5 : jrem (iv N18 486 170) 24 = s 0 9 % 24 := by rw [f18.eiv (by omega), hs.2.2.2.2, jrem_eq ⟨by omega, by omega⟩ ⟨by decide, by decide⟩]
    rw [y2] at hN11
    rw [y3] at hN16
    rw [y4] at hN18
    rw [y5] at hN20
    have hlet : ∀ x, x < 6 → iv N20 477 x = letF (s 3 (4 * q + i)) (s 2 (4 * q + i)) (s 4 (4 * q + i)) (I.dp q) (s 0 7) (s 0 9 % 24) x := by
      intro x hx
      rw [hN20, hN18, hN16, hN13, hN11, hN9]
      have : x = 0 ∨ x = 1 ∨ x = 2 ∨ x = 3 ∨ x = 4 ∨ x = 5 := by omega
      rcases this with rfl | rfl | rfl | rfl | rfl | rfl <;> simp [iv_si, letF]
    have hLb : ∀ x, x < 6 → -1000000 ≤ letF (s 3 (4 * q + i)) (s 2 (4 * q + i)) (s 4 (4 * q + i)) (I.dp q) (s 0 7) (s 0 9 % 24) x ∧ letF (s 3 (4 * q + i)) (s 2 (4 * q + i)) (s 4 (4 * q + i)) (I.dp q) (s 0 7) (s 0 9 % 24) x ≤ 1000000 := by
      intro x _
      unfold letF
      repeat' split
      all_goals omega
    have hA20 : IM N20 I := by
      have : IM M I := ⟨h1, h2, h3, h4, by unfold LawIM; rw [hl]; exact ⟨hh, q1, q2, q3, q4⟩⟩
      exact this.fr f20 (by intro r hr; omega)
    have h20 := hA20.2.2.2.2
    unfold LawIM at h20
    rw [hl] at h20
    obtain ⟨hh2, z1, z2, z3, z4⟩ := h20
    have z1' := z1
    rw [f20.eiv (by omega), q1] at z1'
    obtain rfl : hh = hh2 := by omega
    rw [z1]
    have hLn : ∀ x, x < 6 → -1000000 ≤ iv N20 477 x ∧ iv N20 477 x ≤ 1000000 := fun x hx => by rw [hlet x hx]; exact hLb x hx
    refine m_worthOf (by omega) sN20 (by omega) z3 hLn (fun M2 hf2 => ⟨_, rfl, hf2.shp sN20, fun v27 hv27 v28 hv28 => ?_⟩)
    have ez : mlF N20 hh (iv N20 477) = wrthF I q (s 3 (4 * q + i)) (s 2 (4 * q + i)) (s 4 (4 * q + i)) (s 0 7) (s 0 9) := by
      rw [mlF_congr z3 hlet, z4 _ hLb, ew]
    rw [ez] at hv27
    have e27 : v27 = fW (wrthF I q (s 3 (4 * q + i)) (s 2 (4 * q + i)) (s 4 (4 * q + i)) (s 0 7) (s 0 9)) 0 1000000 := by rw [hv27]; unfold fW; repeat' split
                                                                                                                          all_goals omega
    rw [hf2.eiv (r := 483) (by omega), f20.eiv (r := 483) (by omega), p1, e27, w64_i (by omega) (by omega)] at hv28
    rw [hv28]
    exact ⟨⟨b1, by omega⟩, h M2 ((f20.mono (fun r hr => Or.inl hr)).trans (hf2.mono (fun r hr => Or.inr hr)))⟩
end MCore
