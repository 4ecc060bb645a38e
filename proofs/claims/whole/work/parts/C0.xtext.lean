/-! A TEXT: the class -/
/-- what a text comes to -/
noncomputable def TxR (W : kW) (st a : Int) (W' : kW) : Prop :=
  (st = 0 ∧ ∃ Y, isT (W.tb, W.tl) = .inr Y ∧ a = (Y.np : Int) ∧ Txt Y W W') ∨ (st = 1 ∧ W.lc < 4 ∧ ∃ L, lwT (W.tb, W.tl) = .inr L ∧ a = (W.lc : Int) ∧ W' = wTextL W L) ∨
  (a = -1 ∧ W' = W ∧ ((st = 0 ∧ ∃ w, isT (W.tb, W.tl) = .inl w) ∨ (st = 1 ∧ (4 ≤ W.lc ∨ ∃ w, lwT (W.tb, W.tl) = .inl w)) ∨ (st ≠ 0 ∧ st ≠ 1)))
section XText
variable {d : Nat} {M M' : jM} {Q : Option jV → jM → Prop} {W W' : kW} {L : jL} {st a : Int}
theorem okTextL (h : OKW W) (hlc : W.lc < 4) : OKW (wTextL W L) := by
  obtain ⟨a1, a2, a3, a4, a5, a6, a7, a8, a9, a10, a11⟩ := h
  refine ⟨a1, a2, a3, a4, a5, a6, a7, ⟨Nat.zero_le _, fun i hi => absurd hi (Nat.not_lt_zero _)⟩, a9, by show W.lc + 1 ≤ 4; omega, ?_⟩
  rcases a11 with z | ⟨z1, z2, z3⟩
  · exact Or.inl z
  · refine Or.inr ⟨z1, by show W.lh < ((W.lc + 1 : Nat) : Int); omega, ?_⟩
    show W.I.lw = some (if W.lh.toNat = W.lc then lwG L else W.lw W.lh.toNat)
    rw [if_neg (by omega)]
    exact z3
theorem okText (h : OKW W) (hR : TxR W st a W') : OKW W' := by
  rcases hR with ⟨_, Y, hY, _, hT⟩ | ⟨_, hlc, L, _, _, rfl⟩ | ⟨_, rfl, _⟩
  · have := isT_ok hY
    exact okTxt this.1 this.2 h hT
  · exact okTextL h hlc
  · exact h
theorem EN_law {G : Nat} {n : Nat} (hE : EN n M M') (hL : LawAt M G) (h5 : 500 ≤ G) : LawAt M' G ∧ lawF M' G = lawF M G ∧ (LawW M G → LawW M' G) := by
  obtain ⟨e1, e2, e3, _⟩ := hE
  have hm := hL.2.1
  have r : ∀ x, x < 7 → kd M' (G + x) = kd M (G + x) ∧ iv M' (G + x) = iv M (G + x) ∧ rv M' (G + x) = rv M (G + x) := fun x hx => by
    obtain ⟨q1, q2, q3, q4⟩ := e3 (G + x) (by omega)
    exact ⟨q1, q2 (by omega) (by omega), q4 (by omega)⟩
  have r0 := r 0 (by decide)
  rw [Nat.add_zero] at r0
  refine ⟨?_, ?_, ?_⟩
  · obtain ⟨h1, h2, h3, h4, h5, h6, h7, h8, h9, h10⟩ := hL
    exact ⟨h1, by omega, by rw [r0.1]; exact h3, by rw [r0.2.2]; exact h4, by rw [(r 1 (by decide)).1]; exact h5, by rw [(r 2 (by decide)).1]; exact h6, by rw [(r 3 (by decide)).1]; exact h7, by rw [(r 4 (by decide)).1]; exact h8, by rw [(r 5 (by decide)).1]; exact h9, by rw [(r 6 (by decide)).1]; exact h10⟩
  · unfold lawF
    rw [r0.2.1, (r 1 (by decide)).2.1, (r 2 (by decide)).2.1, (r 3 (by decide)).2.1, (r 4 (by decide)).2.1, (r 5 (by decide)).2.1]
  · unfold LawW
    rw [r0.2.1, (r 1 (by decide)).2.1, (r 2 (by decide)).2.1, (r 3 (by decide)).2.1, (r 4 (by decide)).2.1, (r 5 (by decide)).2.1]
    exact id
theorem CX.enact (h : CX M W) (hok : OKW W) (hlc : W.lc < 4) (hE : EN W.lc M M') (hL : okL L) (n1 : L.1.length ≤ 240) (n2 : L.2.length ≤ 64) (r1 : RowL (iv M 21) (iv M 22) 0 L.1) (r2 : RowC (iv M 23) (iv M 24) (iv M 25) 0 L.2) (c6 : iv M 20 6 = (L.2.length : Int)) : CX M' (wTextL W L) ∧ FX M M' := by
  have hg := h.shp.1
  have hE0 := hE
  obtain ⟨em, es, er, e6, e7, e27, ela, ev1, ev3, ev6⟩ := hE
  have e : ∀ r, r < 500 → r ≠ 6 → r ≠ 7 → iv M' r = iv M r := fun r hr h6 h7 => (er r (by omega)).2.1 h6 h7
  have s' : Shp M' := by
    have hS := h.shp
    refine ⟨by omega, fun r r0 r5 hr => ?_, fun a j v q => ?_⟩
    · rw [(er r (by omega)).1]; exact hS.2.1 r r0 r5 hr
    · have hlt := R1_lt q
      rw [(er a (by omega)).2.2.2 (R1_27 q)]
      exact hS.2.2 a j v q
  have hrv : ∀ a, a < 500 → a ≠ 27 → rv M' a = rv M a := fun a ha h27 => (er a (by omega)).2.2.2 h27
  obtain ⟨a0, ⟨i1, i2, i3, i4, i5, i6⟩, ⟨x1, x2, nx, c1, c2, c3, c4, c5⟩, a3, a4, ⟨b1, b2, b3⟩, a6, ⟨l1, l2, G, l3, l4, l5, l7⟩, a8, ⟨a9, a9'⟩, a10⟩ := h
  have sb : ∀ {b : Nat} {s : jS}, 8 ≤ b → b + 7 < 500 → SB M b s → SB M' b s := fun hb hb2 hs f i hi h5 => by
    rw [e _ (by unfold inS at hi; omega) (by omega) (by omega)]; exact hs f i hi h5
  have sl : ∀ {b : Nat} {s : jS}, 8 ≤ b → b + 7 < 500 → SL M b s → SL M' b s := fun hb hb2 hs i hi => by
    rw [e _ (by omega) (by omega) (by omega)]; exact hs i hi
  -- the new law
  have agr : RowL (iv M' (mx M + 1)) (iv M' (mx M + 2)) 0 L.1 := r1.cg (fun j _ hj => ev1 j (by omega))
  have agc : RowC (iv M' (mx M + 3)) (iv M' (mx M + 4)) (iv M' (mx M + 5)) 0 L.2 := r2.cg (fun j _ hj => ev3 j (by omega))
  have g6 : iv M' (mx M) 6 = (L.2.length : Int) := ev6.trans c6
  have lf : lawF M' (mx M) = lwG L := by
    funext l
    unfold lawF
    rw [g6, Int.toNat_natCast]
    exact code_G hL agr agc l
  have lww : LawW M' (mx M) := by
    refine ⟨by rw [g6]; omega, by rw [g6]; omega, fun k hk => ?_⟩
    rw [g6] at hk
    obtain ⟨f, s, e, q1, q2, q3, q4, q5, q6, q7, q8⟩ := code_ok hL agr agc k (by omega)
    exact ⟨f, s, e, q1, q2, q3, q4, q5, by omega, q7, q8⟩
  refine ⟨⟨s', ?_, ?_, ?_, ?_, ?_, ?_, ?_, ?_, ⟨?_, ?_⟩, ?_⟩, s', fun r hr => ?_, by omega, by omega, by omega, by omega⟩
  · refine ⟨by rw [e 29 (by decide) (by decide) (by decide)]; exact i1, by rw [e 29 (by decide) (by decide) (by decide)]; exact i2, by rw [e 29 (by decide) (by decide) (by decide)]; exact i3, fun i hi => by rw [e 30 (by decide) (by decide) (by decide)]; exact i4 i hi, fun i hi => by rw [e 31 (by decide) (by decide) (by decide)]; exact i5 i hi, ?_⟩
    show LawI M' W.I.lw
    unfold LawI at i6 ⊢
    split
    · rename_i hl; rw [hl] at i6; rw [hrv 29 (by decide) (by decide)]; exact i6
    · rename_i F hl
      rw [hl] at i6
      obtain ⟨g, q1, q2, q3, q4, q5⟩ := i6
      obtain ⟨u1, u2, u3⟩ := EN_law hE0 q3 q2
      exact ⟨g, by rw [hrv 29 (by decide) (by decide)]; exact q1, q2, u1, u3 q4, by rw [u2]; exact q5⟩
  · refine ⟨fun z => ⟨sb (by decide) (by decide) (x1 z).1, sl (by decide) (by decide) (x1 z).2⟩, by rw [e 33 (by decide) (by decide) (by decide)]; exact x2, nx, c1, by rw [e 65 (by decide) (by decide) (by decide)]; exact c2, by rw [e 65 (by decide) (by decide) (by decide)]; exact c3, c4, fun k hk => ?_⟩
    obtain ⟨d1, d2⟩ := c5 k hk
    exact ⟨sb (by omega) (by omega) d1, sl (by omega) (by omega) d2⟩
  · refine ⟨by rw [e6, if_neg (by decide)]; exact a3.1, fun u hu => ?_⟩
    obtain ⟨d1, d2⟩ := a3.2 u hu
    exact ⟨sb (by decide) (by decide) d1, sl (by decide) (by decide) d2⟩
  · exact fun z => sb (by decide) (by decide) (a4 z)
  · refine ⟨by rw [e 387 (by decide) (by decide) (by decide)]; exact b1, fun k hk => ?_, ?_⟩
    · rw [e 388 (by decide) (by decide) (by decide), e 389 (by decide) (by decide) (by decide), e 390 (by decide) (by decide) (by decide), e 391 (by decide) (by decide) (by decide)]; exact b2 k hk
    · rw [e 387 (by decide) (by decide) (by decide)]
      refine b3.imp id (fun z => ⟨z.1, ?_⟩)
      have z2 := z.2
      unfold RZ at z2 ⊢
      rw [e 400 (by decide) (by decide) (by decide), (er 401 (by omega)).2.2.1, e 402 (by decide) (by decide) (by decide), e 387 (by decide) (by decide) (by decide), e 403 (by decide) (by decide) (by decide)]
      exact z2
  · exact ⟨by rw [e7, if_pos rfl]; rfl, fun i hi => absurd hi (Nat.not_lt_zero _)⟩
  · refine ⟨by rw [e6, if_pos rfl]; rfl, by rw [e6, if_neg (by decide)]; exact l2, fun k => if k = W.lc then mx M else G k, fun k hk => ?_, fun j k hj hk => ?_, fun z => ?_, fun z => ?_⟩
    · have hk : k < W.lc + 1 := hk
      rw [e27]
      show (if k = W.lc then mx M else rv M 27 k) = (if k = W.lc then mx M else G k) ∧ 500 ≤ (if k = W.lc then mx M else G k) ∧ LawAt M' (if k = W.lc then mx M else G k) ∧ LawW M' (if k = W.lc then mx M else G k) ∧ (if k = W.lc then lwG L else W.lw k) = lawF M' (if k = W.lc then mx M else G k)
      by_cases c : k = W.lc
      · rw [if_pos c, if_pos c, if_pos c]
        exact ⟨rfl, hg, ela, lww, lf.symm⟩
      · rw [if_neg c, if_neg c, if_neg c]
        obtain ⟨z1, z2, z3, z4, z5⟩ := l3 k (by omega)
        obtain ⟨u1, u2, u3⟩ := EN_law hE0 z3 z2
        exact ⟨z1, z2, u1, u3 z4, by rw [u2]; exact z5⟩
    · have hk : k < W.lc + 1 := hk
      show (if j = W.lc then mx M else G j) + 7 ≤ (if k = W.lc then mx M else G k)
      rw [if_neg (by omega)]
      by_cases c : k = W.lc
      · rw [if_pos c]
        exact (l3 j (by omega)).2.2.1.2.1
      · rw [if_neg c]
        exact l4 j k hj (by omega)
    · rw [hrv 29 (by decide) (by decide)]; exact l5 z
    · have hl : W.lh ≠ -1 := z
      have hb : 0 ≤ W.lh ∧ W.lh < W.lc := by
        rcases hok.2.2.2.2.2.2.2.2.2.2 with y | y
        · exact absurd y.1 hl
        · exact ⟨y.1, y.2.1⟩
      rw [hrv 29 (by decide) (by decide)]
      show _ = if W.lh.toNat = W.lc then mx M else G W.lh.toNat
      rw [if_neg (by omega)]
      exact l7 z
  · unfold RefX at a8 ⊢; rw [e 28 (by decide) (by decide) (by decide)]; exact a8
  · exact a9.cg (e 12 (by decide) (by decide) (by decide)) (e 13 (by decide) (by decide) (by decide)) (e 14 (by decide) (by decide) (by decide))
  · unfold LgtX at a9' ⊢; rw [e 43 (by decide) (by decide) (by decide), e 44 (by decide) (by decide) (by decide), e 45 (by decide) (by decide) (by decide), e 48 (by decide) (by decide) (by decide)]; exact a9'
  · rw [e6, if_neg (by decide)]; exact a10
  · have hr5 : r < 500 := by omega
    refine ⟨?_, (er r (by omega)).2.2.1, (er r (by omega)).1⟩
    exact e r hr5 (by omega) (by omega)
theorem X_text (hd : 604 ≤ d) (hX : CX M W) (hok : OKW W) (hB : ST M) (h : ∀ a W' M', TxR W st a W' → FX M M' → CX M' W' → Q (some (vI a)) M') : Call d mX10_text [vR 6, vI st] M Q := by
  obtain ⟨e, rfl⟩ := dd (d := d) (by omega)
  have hS := hX.shp
  have h4 : iv M 6 4 = (W.lc : Int) := hX.2.2.2.2.2.2.2.1.1
  refine vx_text (by omega) hS ⟨fun z => ⟨fun z2 => h (-1) W M (Or.inr (Or.inr ⟨rfl, rfl, Or.inr (Or.inr ⟨z, z2⟩)⟩)) (FX.refl hS) hX, fun z2 => ?_⟩, fun z => ?_⟩
  · have z1 := Classical.not_not.mp z2
    rw [h4]
    refine ⟨fun c => h (-1) W M (Or.inr (Or.inr ⟨rfl, rfl, Or.inr (Or.inl ⟨z1, Or.inl (by omega)⟩)⟩)) (FX.refl hS) hX, fun c => ?_⟩
    have hlc : W.lc < 4 := by omega
    refine c_readLaw (by omega) hS (hX.kt hok) (fun q L M1 hL g => ?_) (fun w M1 hL k e3 => ?_)
    · have g2 := hX.kl hok g.1
      refine ⟨_, rfl, g2.1.shp, fun y => absurd y (by decide), fun _ => ?_⟩
      have ok := lwT_ok (T := (W.tb, W.tl))
      rw [hL] at ok
      obtain ⟨k1, k2, k3⟩ := ok
      have ht := hok.2.2.2.2.2.2.2.1.1
      have k2 : L.1.length ≤ W.tl := k2
      have k3 : 4 * L.2.length ≤ W.tl + 4 := k3
      refine x_enact (n := W.lc) (by omega) g2.1.shp g2.1.2.2.2.2.2.2.2.1.1 hlc (fun M2 hE => ?_)
      have g3 := g2.1.enact hok hlc hE k1 (by omega) (by omega) g.2.2.2.2.2.1 g.2.2.2.2.2.2 g.2.2.2.2.1
      refine ⟨_, rfl, g3.1.shp, h _ _ M2 (Or.inr (Or.inl ⟨z1, hlc, L, hL, rfl, rfl⟩)) ?_ g3.1⟩
      have f1 := g2.2
      have f2 := g3.2
      have kf := g.1.1
      refine ⟨f2.1, fun r hr => ?_, ?_, ?_, ?_, ?_⟩
      · obtain ⟨p1, p2, p3⟩ := f1.2.1 r hr
        obtain ⟨q1, q2, q3⟩ := f2.2.1 r hr
        exact ⟨q1.trans p1, q2.trans p2, q3.trans p3⟩
      · have := f1.2.2.1; have := f2.2.2.1; omega
      · have := f2.2.2.2.1; rw [kf.emx] at this; exact this
      · have := f1.2.2.2.2.1; have := f2.2.2.2.2.1; omega
      · have := f2.2.2.2.2.2; rw [kf.ems] at this; exact this
    · have g2 := hX.kl hok k
      exact ⟨_, rfl, g2.1.shp, fun _ => h (-1) W M1 (Or.inr (Or.inr ⟨rfl, rfl, Or.inr (Or.inl ⟨z1, Or.inr ⟨w, hL⟩⟩)⟩)) g2.2 g2.1, fun y => absurd rfl y⟩
  · have z0 := Classical.not_not.mp z
    refine c_readIsl (by omega) hS (hX.kt hok) hB hX.rx (fun Y M1 hY k e3 hB1 hR => ?_) (fun w M1 hY k => ?_)
    · have g2 := hX.ki hok k hR
      obtain ⟨y1, y2⟩ := isT_ok hY
      refine ⟨_, rfl, g2.1.shp, fun y => absurd y (by decide), fun _ => X_settle (by omega) g2.1 hok hB1 y1 y2 (fun W' M2 hT f2 g3 => ⟨_, rfl, g3.shp, h _ W' M2 (Or.inl ⟨z0, Y, hY, rfl, hT⟩) ?_ g3⟩)⟩
      have f1 := g2.2
      have kf := k.1
      refine ⟨f2.1, fun r hr => ?_, ?_, ?_, ?_, ?_⟩
      · obtain ⟨p1, p2, p3⟩ := f1.2.1 r hr
        obtain ⟨q1, q2, q3⟩ := f2.2.1 r hr
        exact ⟨q1.trans p1, q2.trans p2, q3.trans p3⟩
      · have := f1.2.2.1; have := f2.2.2.1; omega
      · have := f2.2.2.2.1; rw [kf.emx] at this; exact this
      · have := f1.2.2.2.2.1; have := f2.2.2.2.2.1; omega
      · have := f2.2.2.2.2.2; rw [kf.ems] at this; exact this
    · have g2 := hX.ki hok k.1 k.2.2
      have no : Q (some (vI (-1))) M1 := h (-1) W M1 (Or.inr (Or.inr ⟨rfl, rfl, Or.inl ⟨z0, w, hY⟩⟩)) g2.2 g2.1
      exact ⟨_, rfl, g2.1.shp, fun _ => ⟨fun _ => no, fun y => absurd (Classical.not_not.mp y) (by omega)⟩, fun y => absurd rfl y⟩
end XText
