/-! THE MODEL reads an island: is it whole -/
def NI (M M' : jM) : Prop := Fr (fun r => r = 468 ∨ (479 ≤ r ∧ r ≤ 481) ∨ r = 485) M M' ∧ ∀ i, i ≠ 3 → i ≠ 4 → i ≠ 20 → i ≠ 21 → iv M' 468 i = iv M 468 i
def NB (M : jM) (Y : jY) : Prop := iv M 468 20 = (Y.np : Int) ∧ iv M 468 21 = (Y.nt : Int) ∧ (∀ i, i < 4 → iv M 479 i = Y.rl i) ∧ (∀ p, p < Y.np → ∀ k, k < 3 → iv M 480 (3 * p + k) = Y.pr p k) ∧ ∀ p, p < Y.nt → ∀ k, k < 4 → iv M 481 (4 * p + k) = Y.th p k
def NIA (M0 M : jM) (a : Nat) (Y : jY) : Prop := NI M0 M ∧ iv M 468 3 = (a : Int) ∧ iv M 468 4 = -1 ∧ NB M Y
def NIB (M0 M : jM) (w : Nat) : Prop := NI M0 M ∧ iv M 468 4 = (w : Int)
section MIsl3
variable {d a w : Nat} {M M1 N : jM} {Q : Option jV → jM → Prop} {T : jT} {Y : jY}
theorem NI.refl : NI M M := ⟨Fr.refl, fun _ _ _ _ _ => rfl⟩
theorem NI.trans (h : NI M M1) (k : NI M1 N) : NI M N := ⟨h.1.trans k.1, fun i h3 h4 h5 h6 => (k.2 i h3 h4 h5 h6).trans (h.2 i h3 h4 h5 h6)⟩
theorem MN.ni (h : MN M M1) : NI M M1 := ⟨h.1.mono (fun s hs => Or.inl hs), fun i h3 _ _ _ => h.2 i h3⟩
theorem MJ.ni {r : Nat} (h : MJ r M M1) (hr : 479 ≤ r ∧ r ≤ 481) : NI M M1 := ⟨h.1.mono (by intro s hs; omega), fun i h3 h4 _ _ => h.2 i h3 h4⟩
theorem NI.s {i : Nat} {v : Int} (h : NI M M1) (hN : N = si M1 468 i v) (hi : i = 3 ∨ i = 4 ∨ i = 20 ∨ i = 21) : NI M N := ⟨by rw [hN]; exact h.1.ps (Or.inl rfl), fun j h3 h4 h5 h6 => by rw [hN, iv_si, if_neg (by omega)]; exact h.2 j h3 h4 h5 h6⟩
theorem NI.mt (h : NI M M1) (hT : MT M T) : MT M1 T := ⟨by rw [h.2 2 (by decide) (by decide) (by decide) (by decide)]; exact hT.1, hT.2.1, fun i hi => by rw [h.1.eiv (by omega)]; exact hT.2.2 i hi⟩
theorem ixq0 {i : Nat} (hi : i < 1000) : w32 (w32 (4 * (i : Int)) + 0) = ((4 * i : Nat) : Int) := by
  rw [w32_i (z := 4 * (i : Int)) (by omega) (by omega), w32_i (by omega) (by omega)]
  omega
theorem ixq1 {i : Nat} (hi : i < 1000) : w32 (w32 (4 * (i : Int)) + 1) = ((4 * i + 1 : Nat) : Int) := by
  rw [w32_i (z := 4 * (i : Int)) (by omega) (by omega), w32_i (by omega) (by omega)]
  omega
theorem ixq2 {i : Nat} (hi : i < 1000) : w32 (w32 (4 * (i : Int)) + 2) = ((4 * i + 2 : Nat) : Int) := by
  rw [w32_i (z := 4 * (i : Int)) (by omega) (by omega), w32_i (by omega) (by omega)]
  omega
theorem ixp2 {i : Nat} {v : Int} (hi : i < 1000) (hv : v = w32 (3 * (i : Int))) : w32 (v + 2) = ((3 * i + 2 : Nat) : Int) := by
  rw [hv, w32_i (z := 3 * (i : Int)) (by omega) (by omega), w32_i (by omega) (by omega)]
  omega
theorem m_isWhole (hd : 8 ≤ d) (hS : Shp M) (hB : NB M Y) (hY : okYr Y) (h : ∀ M', Fr (fun r => r = 485) M M' → Q (some (vI (if okYb Y = true then 1 else 0))) M') : Call d mX11_isWhole [vR 468] M Q := by
  obtain ⟨e, rfl⟩ := dd (d := d) (by omega)
  obtain ⟨b20, b21, b79, b80, b81⟩ := hB
  obtain ⟨y1, y2, y3, y8, y12⟩ := hY
  have end1 : ∀ M' l, Fr (fun r => r = 485) M M' → ((l = 1 ∧ okY Y) ∨ (l = 0 ∧ ¬ okY Y)) → Q (some (vI l)) M' := by
    intro M' l f hl
    have := h M' f
    rcases hl with ⟨l1, ok⟩ | ⟨l0, nk⟩
    · rw [if_pos (okYb_t.mpr ok)] at this; rw [l1]; exact this
    · rw [if_neg (fun x => nk (okYb_t.mp x))] at this; rw [l0]; exact this
  have key : ∀ (f i : Nat) (M1 : jM) (l1 : Int) (l4 l5 l6 : Option jV), i + f = Y.nt → Fr (fun r => r = 485) M M1 → (∀ p, p < 8 → iv M1 485 p = ahF (fun j => Y.th j 0) (p : Int) i) → ((l1 = 1 ∧ 2 ≤ Y.np ∧ ∀ j, j < i → goodT Y j) ∨ (l1 = 0 ∧ ¬ okY Y)) → Run (e + 1) mX11_isWhole 39 [some (vR 468), some (vI l1), some (vR 485), some (vI (i : Int)), l4, l5, l6] [] M1 Q := by
    intro f
    induction f with
    | zero =>
      intro i M1 l1 l4 l5 l6 hi f1 hr hl
      have s1 := f1.shp hS
      have e21 : iv M1 468 21 = (Y.nt : Int) := by rw [f1.eiv (by decide)]; exact b21
      refine vn_isWhole_39 (by omega) s1 ⟨fun _ => ⟨by omega, end1 M1 l1 f1 (hl.imp (fun z => ⟨z.1, z.2.1, fun j hj => z.2.2 j (by omega)⟩) id)⟩, fun z => absurd (by omega) z⟩
    | succ f ih =>
      intro i M1 l1 l4 l5 l6 hi f1 hr hl
      have s1 := f1.shp hS
      have e21 : iv M1 468 21 = (Y.nt : Int) := by rw [f1.eiv (by decide)]; exact b21
      have e20 : iv M1 468 20 = (Y.np : Int) := by rw [f1.eiv (by decide)]; exact b20
      have o0 := y3 i (by omega) 0 (by decide)
      have o1 := y3 i (by omega) 1 (by decide)
      have o2 := y3 i (by omega) 2 (by decide)
      have w0 : 0 ≤ Y.th i 0 ∧ Y.th i 0 ≤ 7 := o0
      have w1 : 0 ≤ Y.th i 1 ∧ Y.th i 1 ≤ 7 := o1
      have w2 : 0 ≤ Y.th i 2 ∧ Y.th i 2 ≤ 2 := o2
      clear o0 o1 o2
      have i12 : i < 12 := by omega
      have v0 : iv M1 481 (4 * i) = Y.th i 0 := by rw [f1.eiv (by decide)]; exact b81 i (by omega) 0 (by decide)
      have v1 : iv M1 481 (4 * i + 1) = Y.th i 1 := by rw [f1.eiv (by decide)]; exact b81 i (by omega) 1 (by decide)
      have v2 : iv M1 481 (4 * i + 2) = Y.th i 2 := by rw [f1.eiv (by decide)]; exact b81 i (by omega) 2 (by decide)
      obtain ⟨p, hp⟩ : ∃ p : Nat, Y.th i 0 = (p : Int) := ⟨(Y.th i 0).toNat, by omega⟩
      have p8 : p < 8 := by omega
      have hah := ahF_in (w := fun j => Y.th j 0) (x := (p : Int)) i
      refine vn_isWhole_39 (by omega) s1 ⟨fun z => absurd z (by omega), fun _ => ?_⟩
      rw [e20, ixq0 (by omega), ixq1 (by omega), ixq2 (by omega), Int.toNat_natCast, Int.toNat_natCast, Int.toNat_natCast, v0, v1, hp, Int.toNat_natCast, hr p p8]
      rw [hp] at w0
      refine ⟨⟨by omega, by omega⟩, ⟨by omega, by omega⟩, ⟨by omega, by omega⟩, fun v14 h14 N hN sN => ?_⟩
      rw [h14, w32_i (by omega) (by omega)] at hN
      have fN : Fr (fun r => r = 485) M N := by rw [hN]; exact f1.ps rfl
      have rN : ∀ p', p' < 8 → iv N 485 p' = ahF (fun j => Y.th j 0) (p' : Int) (i + 1) := by
        intro p' h'
        rw [hN, iv_si]
        simp only [ahF]
        by_cases c : p' = p
        · rw [if_pos ⟨trivial, c⟩, if_pos (by rw [hp, c]), c]
        · rw [if_neg (by omega), if_neg (by rw [hp]; omega), hr p' h']
      rw [w32s (by omega)]
      have no : ¬ goodT Y i → ∀ l4 l5 l6, Run (e + 1) mX11_isWhole 39 [some (vR 468), some (vI 0), some (vR 485), some (vI ((i + 1 : Nat) : Int)), l4, l5, l6] [] N Q := fun ng l4 l5 l6 => ih (i + 1) N 0 l4 l5 l6 (by omega) fN rN (Or.inr ⟨rfl, fun ok => ng (ok.2 i (by omega))⟩)
      refine ⟨fun z => ?_, fun z => ⟨fun z2 => no (fun g => ?_) _ _ _, fun z2 v19 h19 => ?_⟩⟩
      · refine ih (i + 1) N 0 _ _ _ (by omega) fN rN (Or.inr ⟨rfl, ?_⟩)
        rcases hl with l | l
        · exact absurd z (by rw [l.1]; decide)
        · exact l.2
      · obtain ⟨g1, g2, g3, _⟩ := g
        rw [hp] at g1 g3
        rw [if_neg (by omega), if_neg (by omega), if_neg g3] at z2
        exact absurd z2 (by decide)
      · have c1 : (p : Int) < Y.np := by
          by_cases c : (p : Int) < Y.np
          · exact c
          · rw [if_pos (by omega)] at z2; exact absurd rfl z2
        rw [if_neg (by omega)] at z2
        have c2 : Y.th i 1 < Y.np := by
          by_cases c : Y.th i 1 < Y.np
          · exact c
          · rw [if_pos (by omega)] at z2; exact absurd rfl z2
        rw [if_neg (by omega)] at z2
        have c3 : (p : Int) ≠ Y.th i 1 := by
          intro c
          rw [if_pos c] at z2; exact absurd rfl z2
        clear z2
        have e19 := ixp2 (i := p) (by omega) h19
        clear h19
        have n80 : iv N 480 (3 * p + 2) = Y.pr p 2 := by rw [fN.eiv (by decide)]; exact b80 p (by omega) 2 (by decide)
        have n81 : iv N 481 (4 * i + 2) = Y.th i 2 := by rw [fN.eiv (by decide)]; exact b81 i (by omega) 2 (by decide)
        have o2 := y2 p (by omega) 2 (by decide)
        have m2 : 0 ≤ Y.pr p 2 ∧ Y.pr p 2 ≤ 2 := o2
        clear o2
        rw [e19, Int.toNat_natCast, n80, n81, fG_m m2 w2, rN p p8]
        clear e19
        refine ⟨⟨by omega, by omega⟩, ⟨by omega, by omega⟩, fun v22 h22 => ⟨fun z3 => no (fun g => ?_) _ _ _, fun z3 v24 h24 => ?_⟩⟩
        · have := g.2.2.2.1
          rw [hp, Int.toNat_natCast] at this
          rw [h22, this] at z3
          exact absurd z3 (by decide)
        · have hg4 : fG (Y.pr p 2) (Y.th i 2) = 1 := fG_1.mp (by rw [← h22]; exact z3)
          have ea : ahF (fun j => Y.th j 0) (p : Int) (i + 1) = ahF (fun j => Y.th j 0) (p : Int) i + 1 := by
            simp only [ahF]
            rw [if_pos hp]
          rw [ea] at h24
          by_cases c4 : 4 < v24
          · rw [if_pos c4]
            refine no (fun g => ?_) _ _ _
            have := g.2.2.2.2
            rw [hp] at this
            omega
          · rw [if_neg c4]
            refine ih (i + 1) N 1 _ _ _ (by omega) fN rN ?_
            have hgood : goodT Y i := ⟨by rw [hp]; exact c1, c2, by rw [hp]; exact c3, by rw [hp, Int.toNat_natCast]; exact hg4, by rw [hp]; omega⟩
            rcases hl with l | l
            · refine Or.inl ⟨rfl, l.2.1, fun j hj => ?_⟩
              by_cases cj : j = i
              · rw [cj]; exact hgood
              · exact l.2.2 j (by omega)
            · exact absurd l.1 z
  refine vn_isWhole (by omega) hS ?_
  refine up_to (R := fun i => ∀ M1, Fr (fun r => r = 485) M M1 → (∀ p, p < i → iv M1 485 p = 0) → Run (e + 1) mX11_isWhole 21 [some (vR 468), some (vI (if iv M 468 20 ≤ 1 then 0 else 1)), some (vR 485), some (vI (i : Int)), none, none, none] [] M1 Q) 8 ?_ ?_ M Fr.refl (fun j hj => absurd hj (Nat.not_lt_zero _))
  · intro M1 f1 hr
    refine vn_isWhole_21 (by omega) (f1.shp hS) ⟨fun _ => key Y.nt 0 M1 _ none none none (by omega) f1 (fun p hp => by rw [hr p hp]; rfl) ?_, fun z => absurd (by decide) z⟩
    rw [b20]
    by_cases c : (Y.np : Int) ≤ 1
    · rw [if_pos c]
      exact Or.inr ⟨rfl, fun ok => by have := ok.1; omega⟩
    · rw [if_neg c]
      exact Or.inl ⟨rfl, by omega, fun j hj => absurd hj (Nat.not_lt_zero _)⟩
  · intro i hi ih M1 f1 hr
    refine vn_isWhole_21 (by omega) (f1.shp hS) ⟨fun z => absurd z (by omega), fun _ => ⟨⟨by omega, by omega⟩, fun N hN _ => ?_⟩⟩
    rw [Int.toNat_natCast] at hN
    rw [w32s (by omega)]
    refine ih N (by rw [hN]; exact f1.ps rfl) (fun p hp => ?_)
    rw [hN, iv_si]
    by_cases c : p = i
    · rw [if_pos ⟨rfl, c⟩]
    · rw [if_neg (by omega)]; exact hr p (by omega)
end MIsl3
