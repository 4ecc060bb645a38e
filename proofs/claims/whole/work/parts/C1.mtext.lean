/-! A TEXT: the model -/
section MText
variable {d a t : Nat} {M M0 N N' : jM} {Q : Option jV → jM → Prop} {W W' : kW} {L : jL} {st ans : Int}
theorem MLA.row (g : MLA t M0 N a L) (hL : okL L) (n1 : L.1.length ≤ 240) (n2 : L.2.length ≤ 64) : MLawW N t ∧ ∀ l, mlF N t l = lwG L l := by
  obtain ⟨g1, g2, ⟨g3, g4⟩, g5, g6, g7⟩ := g
  refine ⟨⟨by rw [g4]; omega, by rw [g4]; omega, fun k hk => ?_⟩, fun l => ?_⟩
  · rw [g4] at hk
    obtain ⟨f, s, e, q1, q2, q3, q4, q5, q6, q7, q8⟩ := code_ok hL g5 g7 k (by omega)
    exact ⟨f, s, e, q1, q2, q3, q4, q5, by omega, q7, q8, fun i hi => g6 i (by omega)⟩
  · unfold mlF
    rw [g4, Int.toNat_natCast]
    exact code_G hL g5 g7 l
theorem CM.enact (h : CM N W) (hlc : W.lc < 4) (g : MLA W.lc M0 N a L) (hL : okL L) (n1 : L.1.length ≤ 240) (n2 : L.2.length ≤ 64) (hf : Fr (fun r => r = 468) N N') (h2 : iv N' 468 2 = 0) (h13 : iv N' 468 13 = ((W.lc + 1 : Nat) : Int)) (hj : ∀ j, j ≠ 2 → j ≠ 13 → iv N' 468 j = iv N 468 j) : CM N' (wTextL W L) := by
  have gr := g.row hL n1 n2
  obtain ⟨a0, a1, a2, a3, a4, a5, a6, a7, a8, a9⟩ := h
  have e : ∀ r, r ≠ 468 → iv N' r = iv N r := fun r hr => hf.eiv hr
  have m7 : mlF N' = mlF N := by
    funext k
    unfold mlF mSg mVl mRow
    rw [e 470 (by decide), e 471 (by decide), e 473 (by decide), e 474 (by decide), e 475 (by decide), e 476 (by decide)]
  have m8 : MLawW N' = MLawW N := by
    funext k
    unfold MLawW mSg mVl mRow
    rw [e 470 (by decide), e 471 (by decide), e 473 (by decide), e 474 (by decide), e 475 (by decide), e 476 (by decide)]
  have j30 : iv N' 468 30 = iv N 468 30 := hj 30 (by decide) (by decide)
  refine ⟨hf.shp a0, ?_, ?_, ?_, ?_, ?_, ⟨h2, fun i hi => absurd hi (Nat.not_lt_zero _)⟩, ⟨h13, j30.trans a7.2.1, fun k hk => ?_⟩, ?_, ?_⟩
  · obtain ⟨i1, i2, i3, i4, i5⟩ := a1
    refine ⟨(hj 25 (by decide) (by decide)).trans i1, fun p hp => by rw [e 483 (by decide)]; exact i2 p hp, by rw [e 482 (by decide)]; exact i3, by rw [e 482 (by decide)]; exact i4, ?_⟩
    show LawIM N' W.I.lw
    unfold LawIM at i5 ⊢
    rw [j30, m7, m8]
    exact i5
  · show NowM N' W
    unfold NowM PM at a2 ⊢
    rw [hj 33 (by decide) (by decide), e 486 (by decide), e 488 (by decide)]
    exact a2
  · show PicM N' W
    unfold PicM at a3 ⊢
    rw [hj 46 (by decide) (by decide), e 498 (by decide)]
    exact a3
  · show TolM N' W
    unfold TolM TM at a4 ⊢
    rw [hj 26 (by decide) (by decide), e 484 (by decide), e 483 (by decide), e 482 (by decide)]
    exact a4
  · show RidM N' W
    unfold RidM at a5 ⊢
    rw [hj 42 (by decide) (by decide), e 492 (by decide), e 493 (by decide), e 494 (by decide), e 495 (by decide)]
    exact a5
  · have hk : k < W.lc + 1 := hk
    rw [m7, m8]
    show MLawW N k ∧ ∀ l : Nat → Int, (∀ i, i < 6 → -1000000 ≤ l i ∧ l i ≤ 1000000) → mlF N k l = (if k = W.lc then lwG L else W.lw k) l
    by_cases c : k = W.lc
    · rw [if_pos c, c]
      exact ⟨gr.1, fun l _ => gr.2 l⟩
    · rw [if_neg c]
      exact a7.2.2 k (by omega)
  · show RefM N' W
    unfold RefM at a8 ⊢
    rw [e 487 (by decide)]
    exact a8
  · exact (hj 31 (by decide) (by decide)).trans a9
theorem M_text (hd : 724 ≤ d) (hM : CM M W) (hok : OKW W) (hT : TxR W st ans W') (h : ∀ M', FM M M' → CM M' W' → Q (some (vI ans)) M') : Call d mX11_text [vR 468, vI st] M Q := by
  obtain ⟨e, rfl⟩ := dd (d := d) (by omega)
  have hS := hM.shp
  have h13 : iv M 468 13 = (W.lc : Int) := hM.2.2.2.2.2.2.2.1.1
  have no : ∀ M1, ans = -1 ∧ W' = W → FM M M1 → CM M1 W → Q (some (vI (-1))) M1 := fun M1 q f c => by
    have := h M1 f (by rw [q.2]; exact c)
    rw [q.1] at this
    exact this
  refine vn_text (by omega) hS ⟨fun z => ⟨fun z2 => ?_, fun z2 => ?_⟩, fun z => ?_⟩
  · refine no M ?_ Fr.refl hM
    rcases hT with ⟨q, _⟩ | ⟨q, _⟩ | ⟨q1, q2, _⟩
    · exact absurd q z
    · exact absurd q z2
    · exact ⟨q1, q2⟩
  · have z1 := Classical.not_not.mp z2
    rw [h13]
    refine ⟨fun c => ?_, fun c => ?_⟩
    · refine no M ?_ Fr.refl hM
      rcases hT with ⟨q, _⟩ | ⟨_, q, _⟩ | ⟨q1, q2, _⟩
      · exact absurd q z
      · omega
      · exact ⟨q1, q2⟩
    · have hlc : W.lc < 4 := by omega
      refine m_readLaw (t := W.lc) (by omega) hS (hM.mt hok) (by omega) (fun q L N hL g => ?_) (fun w N hL g => ?_)
      · have g2 := hM.mg hok g.1 (Nat.le_refl _)
        refine ⟨_, rfl, g2.1.shp, fun y => absurd y (by decide), fun _ N10 h10 _ N12 h12 s12 => ?_⟩
        obtain ⟨r1, r2⟩ : ans = (W.lc : Int) ∧ W' = wTextL W L := by
          rcases hT with ⟨q, _⟩ | ⟨_, _, L', hL', q1, q2⟩ | ⟨_, _, q⟩
          · exact absurd q z
          · have : L' = L := by
              have y := hL'.symm.trans hL
              exact Sum.inr.inj y
            rw [this] at q2
            exact ⟨q1, q2⟩
          · rcases q with ⟨q, _⟩ | ⟨_, q | ⟨w, q⟩⟩ | ⟨_, q⟩
            · exact absurd q z
            · omega
            · have y := q.symm.trans hL
              exact absurd y (by simp)
            · exact absurd z1 q
        have ok := lwT_ok (T := (W.tb, W.tl))
        rw [hL] at ok
        obtain ⟨k1, k2, k3⟩ := ok
        have ht := hok.2.2.2.2.2.2.2.1.1
        have k2 : L.1.length ≤ W.tl := k2
        have k3 : 4 * L.2.length ≤ W.tl + 4 := k3
        have n13 : iv N 468 13 = (W.lc : Int) := (g.1.2.1 13 (by decide) (by decide) (by decide) (by decide)).trans h13
        have m13 : iv N10 468 13 = (W.lc : Int) := by rw [h10, iv_si, if_neg (by omega)]; exact n13
        rw [m13, w32s (by omega)] at h12
        have f12 : Fr (fun r => r = 468) N N12 := by rw [h12, h10]; exact (fr_si (P := fun r => r = 468) rfl).ps rfl
        have v13 : iv N12 468 13 = ((W.lc + 1 : Nat) : Int) := by rw [h12, iv_si, if_pos ⟨rfl, rfl⟩]
        have v2 : iv N12 468 2 = 0 := by rw [h12, iv_si, if_neg (by omega), h10, iv_si, if_pos ⟨rfl, rfl⟩]
        have vj : ∀ j, j ≠ 2 → j ≠ 13 → iv N12 468 j = iv N 468 j := fun j j1 j2 => by rw [h12, iv_si, if_neg (by omega), h10, iv_si, if_neg (by omega)]
        have g3 := g2.1.enact hlc g k1 (by omega) (by omega) f12 v2 v13 vj
        rw [v13, show w32 (((W.lc + 1 : Nat) : Int) - 1) = (W.lc : Int) by rw [w32_i (by omega) (by omega)]; omega, ← r1]
        exact h N12 (g2.2.trans (f12.mono (fun r hr => by omega))) (by rw [r2]; exact g3)
      · have g2 := hM.mg hok g (Nat.le_refl _)
        have no2 : Q (some (vI (-1))) N := by
          refine no N ?_ g2.2 g2.1
          rcases hT with ⟨q, _⟩ | ⟨_, _, L', hL', _⟩ | ⟨q1, q2, _⟩
          · exact absurd q z
          · have y := hL'.symm.trans hL
            exact absurd y (by simp)
          · exact ⟨q1, q2⟩
        exact ⟨_, rfl, g2.1.shp, fun _ => no2, fun y => absurd (Classical.not_not.mp y) (by omega)⟩
  · have z0 := Classical.not_not.mp z
    refine m_readIsl (by omega) hS (hM.mt hok) hok.okt (fun Y N hY k e4 hB => ?_) (fun w N hY k _ => ?_)
    · have g2 := hM.ni k
      obtain ⟨y1, y2⟩ := isT_ok hY
      refine ⟨_, rfl, g2.1.shp, fun y => absurd y (by decide), fun _ N32 h32 s32 => ?_⟩
      obtain ⟨r1, r2⟩ : ans = (Y.np : Int) ∧ Txt Y W W' := by
        rcases hT with ⟨_, Y', hY', q1, q2⟩ | ⟨q, _⟩ | ⟨_, _, q⟩
        · have : Y' = Y := Sum.inr.inj (hY'.symm.trans hY)
          rw [this] at q1 q2
          exact ⟨q1, q2⟩
        · omega
        · rcases q with ⟨_, w, q⟩ | ⟨q, _⟩ | ⟨q, _⟩
          · have y := q.symm.trans hY
            exact absurd y (by simp)
          · omega
          · exact absurd z0 q
      refine M_take (by omega) g2.1 hB y1 y2 r2 h32 (fun M' f c => ⟨_, rfl, c.shp, ?_⟩)
      rw [← r1]
      exact h M' (g2.2.trans f) c
    · have g2 := hM.ni k
      have no2 : Q (some (vI (-1))) N := by
        refine no N ?_ g2.2 g2.1
        rcases hT with ⟨_, Y', hY', _⟩ | ⟨q, _⟩ | ⟨q1, q2, _⟩
        · have y := hY'.symm.trans hY
          exact absurd y (by simp)
        · omega
        · exact ⟨q1, q2⟩
      exact ⟨_, rfl, g2.1.shp, fun _ => ⟨fun _ => no2, fun y => absurd (Classical.not_not.mp y) (by omega)⟩, fun y => absurd (Classical.not_not.mp y) (by omega)⟩
end MText
