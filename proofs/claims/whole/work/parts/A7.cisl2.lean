/-! THE CLASS reads an island: all of it -/
section CIsl2
variable {d : Nat} {M0 M M1 N : jM} {Q : Option jV → jM → Prop} {T : jT} {a w st : Nat} {Y : jY} {it : Nat → Int}
theorem c_ahead {i : Nat} {v : Nat → Int} (hd : 5 ≤ d) (hS : Shp M) (hi : i < 12) (hw : ∀ k, k ≤ i → iv M 15 k = v k) (h : Q (some (vI (ahF v (v i) i))) M) : Call d mX2_toldAhead [vR 9, vI (i : Int)] M Q := by
  obtain ⟨e, rfl⟩ := dd (d := d) (by omega)
  have key : ∀ f j : Nat, j + f = i → Run (e + 1) mX2_toldAhead 4 [some (vR 9), some (vI (i : Int)), some (vI (ahF v (v i) j)), some (vI (j : Int))] [] M Q := by
    intro f
    induction f with
    | zero =>
      intro j hj
      have : j = i := by omega
      rw [this]
      exact vj_ahead_4 (by omega) hS ⟨fun _ => h, fun z => absurd (Int.le_refl _) z⟩
    | succ f ih =>
      intro j hj
      have hb := ahF_in (w := v) (x := v i) j
      refine vj_ahead_4 (by omega) hS ⟨fun z => absurd z (by omega), fun _ v2 hv2 => ?_⟩
      rw [atv_n (by omega : j < 12), atv_n (by omega : i < 12), hw j (by omega), hw i (Nat.le_refl _)] at hv2
      have ev : v2 = ahF v (v i) (j + 1) := by
        simp only [ahF]
        by_cases c : v j = v i
        · rw [if_neg (fun z => z c)] at hv2
          rw [if_pos c, hv2, w32_i (by omega) (by omega)]
        · rw [if_pos c] at hv2
          rw [if_neg c, hv2, w32_i (by omega) (by omega)]
          omega
      rw [ev, w32s (by omega)]
      exact ih (j + 1) (by omega)
  exact vj_ahead (by omega) hS (key i 0 (by omega))
theorem fG_1 {m k : Int} : ¬ fG m k = 0 ↔ fG m k = 1 := by
  unfold fG
  split <;> simp
theorem c_holds (hd : 7 ≤ d) (hS : Shp M) (hB : IB M Y) (hY : okYr Y) (hy : okY Y → Q (some (vI 1)) M) (hn : ¬ okY Y → Q (some (vI 0)) M) : Call d mX2_holdsTogether [vR 9] M Q := by
  obtain ⟨e, rfl⟩ := dd (d := d) (by omega)
  obtain ⟨b1, b2, b3, b4, b5, b6⟩ := hB
  obtain ⟨y1, y2, y3, y8, y12⟩ := hY
  refine vj_holds (by omega) hS ⟨fun z => ?_, fun z => hn (fun k => z (by have := k.1; omega))⟩
  rw [b2] at z
  have key : ∀ (f i : Nat) (l2 : Option jV), i + f = Y.nt → (∀ j, j < i → goodT Y j) → Run (e + 1) mX2_holdsTogether 12 [some (vR 9), some (vI (i : Int)), l2] [] M Q := by
    intro f
    induction f with
    | zero =>
      intro i l2 hi hg
      exact vj_holds_12 (by omega) hS ⟨fun _ => hy ⟨by omega, fun j hj => hg j (by omega)⟩, fun c => absurd (by omega) c⟩
    | succ f ih =>
      intro i l2 hi hg
      have hi12 : i < 12 := by omega
      obtain ⟨c15, c16, c17, _⟩ := b6 i (by omega)
      have o0 := y3 i (by omega) 0 (by decide)
      have o1 := y3 i (by omega) 1 (by decide)
      have w0 : 0 ≤ Y.th i 0 ∧ Y.th i 0 ≤ 7 := o0
      have w1 : 0 ≤ Y.th i 1 ∧ Y.th i 1 ≤ 7 := o1
      have bad : ¬ goodT Y i → Q (some (vI 0)) M := fun nb => hn (fun k => nb (k.2 i (by omega)))
      refine vj_holds_12 (by omega) hS ⟨fun c => absurd c (by omega), fun _ => ?_⟩
      rw [b2, atv_n hi12, atv_n hi12, atv_n hi12, c15, c16, c17]
      refine ⟨fun c => bad (fun k => by have := k.1; omega), fun c0 => ⟨fun c => bad (fun k => by have := k.2.1; omega), fun c1 => ⟨fun c2 => ?_, fun c2 => bad (fun k => k.2.2.1 (Classical.not_not.mp c2))⟩⟩⟩
      obtain ⟨p, hp⟩ : ∃ p : Nat, Y.th i 0 = (p : Int) := ⟨(Y.th i 0).toNat, by omega⟩
      have e14 : atv M 8 14 (Y.th i 0) = Y.pr (Y.th i 0).toNat 2 := by
        rw [hp, atv_n (by omega : p < 8), Int.toNat_natCast]
        exact (b5 p (by omega)).2.2
      rw [e14]
      refine ⟨fun c3 => bad (fun k => by have := k.2.2.2.1; omega), fun c3 => ?_⟩
      refine c_ahead (v := fun j => Y.th j 0) (by omega) hS hi12 (fun k hk => (b6 k (by omega)).1) ⟨_, rfl, hS, fun c4 => ?_, fun c4 => bad (fun k => c4 k.2.2.2.2)⟩
      rw [w32s (by omega)]
      refine ih (i + 1) _ (by omega) (fun j hj => ?_)
      by_cases cj : j = i
      · rw [cj]; exact ⟨by omega, by omega, c2, fG_1.mp c3, c4⟩
      · exact hg j (by omega)
  exact key Y.nt 0 none (by omega) (fun j hj => absurd hj (Nat.not_lt_zero _))
theorem CI.shp (g : CI M0 M a Y) (hS : Shp M0) : Shp M := g.1.1.shp hS
theorem c_iclause (hd : 12 ≤ d) (hS0 : Shp M0) (hT0 : KT M0 T) (hB0 : ST M0) (g : CI M0 M a Y) (hY : okYr Y) (ha : a ≤ T.2) (hy : ∀ q it M', kdY Y (nxT T a) ≠ -1 → itY T (kdY Y (nxT T a)).toNat 4 (skT T a + 1) 0 (fun i => utY (4 * (kdY Y (nxT T a)).toNat + i)) = .inr (q, it) → (nxT T q = -1 ∨ nxT T q = 59) → CI M0 M' q (kpY Y (kdY Y (nxT T a)).toNat it) → Q (some (vI 1)) M') (hn1 : kdY Y (nxT T a) = -1 → ∀ M', CIB M0 M' (skT T a) → Q (some (vI 0)) M') (hn2 : kdY Y (nxT T a) ≠ -1 → ∀ w M', (itY T (kdY Y (nxT T a)).toNat 4 (skT T a + 1) 0 (fun i => utY (4 * (kdY Y (nxT T a)).toNat + i)) = .inl w ∨ ∃ it', itY T (kdY Y (nxT T a)).toNat 4 (skT T a + 1) 0 (fun i => utY (4 * (kdY Y (nxT T a)).toNat + i)) = .inr (w, it') ∧ ¬ (nxT T w = -1 ∨ nxT T w = 59)) → CIB M0 M' w → Q (some (vI 0)) M') : Call d mX2_readClause [vR 9, vR 7] M Q := by
  obtain ⟨e, rfl⟩ := dd (d := d) (by omega)
  have hS := g.shp hS0
  obtain ⟨g1, g2, g3, g4, g5⟩ := g
  have hT := g1.kt hT0
  have hB := g1.stat hB0
  have hk3 := kdY_in (Y := Y) (c := nxT T a)
  refine vj_readClause (by omega) hS (c_next (by omega) hS hT g2 (fun M2 k2 e2 => ⟨_, rfl, k2.1.shp hS, ?_⟩))
  have s2 := k2.1.shp hS
  have ib2 : IB M2 Y := by
    unfold IB at g4 ⊢
    rw [k2.1.eiv (by decide), k2.1.eiv (by decide), k2.1.eiv (by decide), k2.1.eiv (by decide), k2.1.eiv (by decide), k2.1.eiv (by decide), k2.1.eiv (by decide), k2.1.eiv (by decide), k2.1.eiv (by decide)]
    exact g4
  have rd2 : RdrX M2 := g5.cg (k2.1.eiv (by decide)) (k2.1.eiv (by decide)) (k2.1.eiv (by decide))
  refine c_sort (by omega) s2 ib2 ⟨_, rfl, s2, fun z N hN sN => ?_, fun z N hN sN => ?_⟩
  · obtain ⟨st, hst⟩ : ∃ st : Nat, kdY Y (nxT T a) = (st : Int) := ⟨(kdY Y (nxT T a)).toNat, by omega⟩
    have hlt : skT T a < T.2 := nxT_lt (fun x => by rw [x] at z; exact z (by unfold kdY; rw [if_neg (by omega), if_neg (by omega), if_neg (by omega)]))
    rw [step_e (hT.kf k2.kf) e2 hlt] at hN
    have kN : KN M N := k2.si hN
    have eN : iv N 7 2 = ((skT T a + 1 : Nat) : Int) := by rw [hN, iv_si, if_pos ⟨rfl, rfl⟩]
    rw [hst, Int.toNat_natCast] at hy hn2
    rw [hst]
    have h3 : st < 3 := by omega
    refine c_lay (st := st) (by omega) sN ((kN.k3.ki).stat hB) h3 (fun M3 f3 e3 => ⟨rfl, f3.shp sN, ?_⟩)
    have s3 := f3.shp sN
    have k3 : KI M M3 := kN.k3.ki.trans (KI.of f3 (by intro r hr; omega))
    refine c_items (st := st) (by omega) s3 (k3.kt hT) (k3.stat hB) h3 (a := skT T a + 1) (by rw [f3.eiv (by decide)]; exact eN) e3 (fun q it' M4 hi hq k4 e42 e43 hit4 => ⟨_, rfl, k4.1.shp s3, fun _ => ?_, fun x => absurd (by decide) x⟩) (fun w M4 hi k4 e43 => ⟨_, rfl, k4.1.shp s3, fun x => absurd rfl x, fun _ => ?_⟩)
    · have s4 := k4.1.shp s3
      have hio := itY_ok (T := T) h3 4 (skT T a + 1) 0 (fun i => utY (4 * st + i)) (by omega) (okIt_ut h3)
      rw [hi] at hio
      have f24 : Fr (fun r => r = 7 ∨ r = 10) M2 M4 := by
        refine Fr.trans (M1 := N) (by rw [hN]; exact fr_si (Or.inl rfl)) ((f3.mono (by intro r hr; exact Or.inr hr)).trans k4.1)
      have ib4 : IB M4 Y := by
        unfold IB at ib2 ⊢
        rw [f24.eiv (by decide), f24.eiv (by decide), f24.eiv (by decide), f24.eiv (by decide), f24.eiv (by decide), f24.eiv (by decide), f24.eiv (by decide), f24.eiv (by decide), f24.eiv (by decide)]
        exact ib2
      have rd4 : RdrX M4 := rd2.cg (f24.eiv (by decide)) (f24.eiv (by decide)) (f24.eiv (by decide))
      have h8 : st = 1 → Y.np < 8 := by
        intro x
        rw [x] at hst
        unfold kdY at hst
        by_cases c0 : nxT T a = 115 ∧ Y.rt = false
        · rw [if_pos c0] at hst; omega
        · rw [if_neg c0] at hst
          by_cases c1 : nxT T a = 112 ∧ Y.np < 8
          · exact c1.2
          · rw [if_neg c1] at hst
            by_cases c2 : nxT T a = 116 ∧ Y.nt < 12
            · rw [if_pos c2] at hst; omega
            · rw [if_neg c2] at hst; omega
      have h12 : st = 2 → Y.nt < 12 := by
        intro x
        rw [x] at hst
        unfold kdY at hst
        by_cases c0 : nxT T a = 115 ∧ Y.rt = false
        · rw [if_pos c0] at hst; omega
        · rw [if_neg c0] at hst
          by_cases c1 : nxT T a = 112 ∧ Y.np < 8
          · rw [if_pos c1] at hst; omega
          · rw [if_neg c1] at hst
            by_cases c2 : nxT T a = 116 ∧ Y.nt < 12
            · exact c2.2
            · rw [if_neg c2] at hst; omega
      refine c_keep (by omega) s4 ib4 rd4 hY h3 h8 h12 hit4 hio.2.2.2 (fun M5 f5 ib5 rd5 => ⟨rfl, f5.shp s4, ?_⟩)
      have k5 : KI M M5 := (k3.trans k4.ki).trans (KI.of f5 (by intro r hr; exact hr))
      refine hy q it' M5 (by omega) hi hq ⟨g1.trans k5, ?_, ?_, ib5, rd5⟩
      · rw [f5.eiv (by decide)]; exact e42
      · rw [f5.eiv (by decide), e43, f3.eiv (by decide), kN.2 3 (by decide)]; exact g3
    · refine hn2 (by omega) w M4 hi ⟨g1.trans (k3.trans k4.ki), e43, ?_⟩
      have f24 : Fr (fun r => r = 7 ∨ r = 10) M2 M4 := by
        refine Fr.trans (M1 := N) (by rw [hN]; exact fr_si (Or.inl rfl)) ((f3.mono (by intro r hr; exact Or.inr hr)).trans k4.1)
      exact rd2.cg (f24.eiv (by decide)) (f24.eiv (by decide)) (f24.eiv (by decide))
  · refine hn1 (Classical.not_not.mp z) N ⟨g1.trans (k2.k3.si hN).ki, by rw [hN, iv_si, if_pos ⟨rfl, rfl⟩]; exact e2, ?_⟩
    have fN : Fr (fun r => r = 7) M2 N := by rw [hN]; exact fr_si rfl
    exact rd2.cg (fN.eiv (by decide)) (fN.eiv (by decide)) (fN.eiv (by decide))
theorem c_readIsl (hd : 14 ≤ d) (hS : Shp M) (hT : KT M T) (hB : ST M) (hR : RdrX M) (hy : ∀ Y M', isT T = .inr Y → KI M M' → iv M' 7 3 = -1 → IB M' Y → RdrX M' → Q (some (vI 1)) M') (hn : ∀ w M', isT T = .inl w → CIB M M' w → Q (some (vI 0)) M') : Call d mX2_read [vR 9, vR 7] M Q := by
  obtain ⟨e, rfl⟩ := dd (d := d) (by omega)
  have h240 := hT.2.1
  refine vj_read (by omega) hS (fun N1 h1 _ N3 h3 _ N5 h5 s5 => ?_)
  have f5 : Fr (fun r => r = 9) M N5 := by rw [h5, h3, h1]; exact ((fr_si (P := fun r => r = 9) rfl).ps rfl).ps rfl
  have v9 : iv N5 9 2 = 0 ∧ iv N5 9 3 = 0 ∧ iv N5 9 7 = 0 := by
    rw [h5, h3, h1]
    simp [iv_si]
  have k5 : KI M N5 := KI.of f5 (by intro r hr; omega)
  refine c_lay (st := 0) (by omega) s5 (k5.stat hB) (by decide) (fun M6 f6 e6 => ⟨rfl, f6.shp s5, fun N7 h7 s7 N8 h8 s8 => ?_⟩)
  have k8 : KI M N8 := by
    refine k5.trans ((KI.of f6 (by intro r hr; omega)).trans ((KI.of (M1 := N7) (P := fun r => r = 11) (by rw [h7]; exact fr_cpr rfl) (by intro r hr; omega)).trans ⟨by rw [h8]; exact (fr_si (P := fun r => r = 7 ∨ (9 ≤ r ∧ r ≤ 18)) (Or.inl rfl)).ps (Or.inl rfl), fun i i2 i3 => by rw [h8, iv_si, if_neg (by omega), iv_si, if_neg (by omega)]⟩))
  have e8 : ∀ r, r ≠ 7 → iv N8 r = iv N7 r := fun r hr => funext (fun i => by rw [h8, iv_si, if_neg (by omega), iv_si, if_neg (by omega)])
  have f7 : Fr (fun r => r = 11) M6 N7 := by rw [h7]; exact fr_cpr rfl
  have ib8 : IB N8 Y0 := by
    have a9 : iv N8 9 = iv N5 9 := by rw [e8 9 (by decide), f7.eiv (by decide), f6.eiv (by decide)]
    refine ⟨by rw [a9]; exact v9.1, by rw [a9]; exact v9.2.1, by rw [a9]; exact v9.2.2, fun i hi => ?_, fun p hp => absurd hp (Nat.not_lt_zero _), fun k hk => absurd hk (Nat.not_lt_zero _)⟩
    rw [e8 11 (by decide), h7, iv_cpr, if_pos ⟨rfl, hi⟩, e6 i hi]
    show utY (4 * 0 + i) = utY i
    rw [show 4 * 0 + i = i by omega]
  have q8 : ∀ r, r = 12 ∨ r = 13 ∨ r = 14 → iv N8 r = iv M r := fun r hr => by
    rw [e8 r (by omega), f7.eiv (by omega), f6.eiv (by omega), f5.eiv (by omega)]
  have rd8 : RdrX N8 := hR.cg (q8 12 (by omega)) (q8 13 (by omega)) (q8 14 (by omega))
  have g8 : CI M N8 0 Y0 := ⟨k8, by rw [h8]; simp [iv_si], by rw [h8]; simp [iv_si], ib8, rd8⟩
  obtain ⟨R, hRd⟩ : ∃ R, R = ilF T (T.2 + 1) 0 Y0 := ⟨_, rfl⟩
  have key : ∀ (f i a : Nat) (Y : jY) (M1 : jM), f + i = T.2 + 1 → i ≤ a → a ≤ T.2 → CI M M1 a Y → okYr Y → ilF T f a Y = R → Run (e + 1) mX2_read 37 [some (vR 9), some (vR 7), some (vI (i : Int))] [] M1 Q := by
    intro f
    induction f with
    | zero =>
      intro i a Y M1 hf hi ha
      omega
    | succ f ih =>
      intro i a Y M1 hf hi ha g hY he
      have s1 := g.shp hS
      simp only [ilF] at he
      have hk3 := kdY_in (Y := Y) (c := nxT T a)
      have hk1 := (skT_in (T := T) a).1
      have no : ∀ w, R = .inl w → isT T = .inl w := fun w hw => by unfold isT; rw [← hRd, hw]
      refine vj_read_37 (by omega) s1 ⟨fun z => absurd z (by omega), fun _ => c_iclause (T := T) (by omega) hS hT hB g hY ha (fun q it M2 hk hi2 hq g2 => ⟨_, rfl, g2.shp hS, fun _ => ?_, fun z => absurd (by decide) z⟩) (fun hk M2 g2 => ⟨_, rfl, g2.1.1.shp hS, fun z => absurd rfl z, fun _ => ?_⟩) (fun hk w M2 hw g2 => ⟨_, rfl, g2.1.1.shp hS, fun z => absurd rfl z, fun _ => ?_⟩)⟩
      · rw [if_neg hk, hi2] at he
        dsimp only at he
        have s2 := g2.shp hS
        have hlt : skT T a < T.2 := nxT_lt (fun x => by rw [x] at hk; exact hk (by unfold kdY; rw [if_neg (by omega), if_neg (by omega), if_neg (by omega)]))
        have hio := itY_ok (T := T) (st := (kdY Y (nxT T a)).toNat) (by omega) 4 (skT T a + 1) 0 (fun i => utY (4 * (kdY Y (nxT T a)).toNat + i)) (by omega) (okIt_ut (by omega))
        rw [hi2] at hio
        obtain ⟨q1, q2, q3, q4⟩ := hio
        have hY2 := kpY_ok (c := nxT T a) hY hk q4
        have next : ∀ M3, KN M2 M3 → iv M3 7 2 = ((skT T q : Nat) : Int) → CI M M3 (skT T q) (kpY Y (kdY Y (nxT T a)).toNat it) := fun M3 k3 e3 => by
          obtain ⟨p1, p2, p3, p4, p5⟩ := g2
          refine ⟨p1.trans k3.k3.ki, e3, (k3.2 3 (by decide)).trans p3, ?_, p5.cg (k3.1.eiv (by decide)) (k3.1.eiv (by decide)) (k3.1.eiv (by decide))⟩
          unfold IB at p4 ⊢
          rw [k3.1.eiv (by decide), k3.1.eiv (by decide), k3.1.eiv (by decide), k3.1.eiv (by decide), k3.1.eiv (by decide), k3.1.eiv (by decide), k3.1.eiv (by decide), k3.1.eiv (by decide), k3.1.eiv (by decide)]
          exact p4
        refine c_next (by omega) s2 (g2.1.kt hT) g2.2.1 (fun M3 k3 e3 => ⟨_, rfl, k3.1.shp s2, fun z => ?_, fun z => ?_⟩)
        · have y59 : nxT T q = 59 := hq.resolve_left z
          rw [if_neg z, if_pos y59] at he
          have s3 := k3.1.shp s2
          have T3 := (g2.1.trans k3.k3.ki).kt hT
          refine c_take (by omega) s3 T3 e3 (by decide) (fun x M4 k4 e4 => ⟨_, rfl, k4.1.shp s3, fun _ => ?_, fun y => absurd (by decide) y⟩) (fun x M4 k4 e4 => absurd (by rw [nxT_sk]; exact y59) x)
          rw [skT_sk] at e4
          have hlt2 : skT T q < T.2 := nxT_lt (by rw [y59]; decide)
          have hq1 := (skT_in (T := T) q).1
          have g3 := next M3 k3 e3
          rw [w32s (by omega)]
          refine ih (i + 1) (skT T q + 1) _ M4 (by omega) (by omega) (by omega) ?_ hY2 he
          obtain ⟨p1, p2, p3, p4, p5⟩ := g3
          refine ⟨p1.trans k4.k3.ki, e4, (k4.2 3 (by decide)).trans p3, ?_, p5.cg (k4.1.eiv (by decide)) (k4.1.eiv (by decide)) (k4.1.eiv (by decide))⟩
          unfold IB at p4 ⊢
          rw [k4.1.eiv (by decide), k4.1.eiv (by decide), k4.1.eiv (by decide), k4.1.eiv (by decide), k4.1.eiv (by decide), k4.1.eiv (by decide), k4.1.eiv (by decide), k4.1.eiv (by decide), k4.1.eiv (by decide)]
          exact p4
        · have z := Classical.not_not.mp z
          rw [if_pos z] at he
          have s3 := k3.1.shp s2
          have g3 := next M3 k3 e3
          have hit : isT T = if okYb (kpY Y (kdY Y (nxT T a)).toNat it) = true then .inr (kpY Y (kdY Y (nxT T a)).toNat it) else .inl (skT T q) := by
            unfold isT
            rw [← hRd, ← he]
          refine c_holds (by omega) s3 g3.2.2.2.1 hY2 (fun ok => ⟨_, rfl, s3, fun _ => ?_, fun y => absurd (by decide) y⟩) (fun nok => ⟨_, rfl, s3, fun y => absurd rfl y, fun _ N hN _ => ?_⟩)
          · rw [if_pos (okYb_t.mpr ok)] at hit
            exact hy _ M3 hit g3.1 g3.2.2.1 g3.2.2.2.1 g3.2.2.2.2
          · rw [if_neg (fun x => nok (okYb_t.mp x))] at hit
            have fN : Fr (fun r => r = 7) M3 N := by rw [hN]; exact fr_si rfl
            exact hn _ N hit ⟨g3.1.trans (KN.refl.k3.si hN).ki, by rw [hN, iv_si, if_pos ⟨rfl, rfl⟩]; exact e3, g3.2.2.2.2.cg (fN.eiv (by decide)) (fN.eiv (by decide)) (fN.eiv (by decide))⟩
      · rw [if_pos hk] at he
        exact hn _ M2 (no _ he.symm) g2
      · rw [if_neg hk] at he
        rcases hw with hw | ⟨it', hw, nz⟩
        · rw [hw] at he
          exact hn _ M2 (no _ he.symm) g2
        · rw [hw] at he
          dsimp only at he
          rw [if_neg (fun x => nz (Or.inl x)), if_neg (fun x => nz (Or.inr x))] at he
          have hio := itY_ok (T := T) (st := (kdY Y (nxT T a)).toNat) (by omega) 4 (skT T a + 1) 0 (fun i => utY (4 * (kdY Y (nxT T a)).toNat + i)) (by
            have hlt : skT T a < T.2 := nxT_lt (fun x => by rw [x] at hk; exact hk (by unfold kdY; rw [if_neg (by omega), if_neg (by omega), if_neg (by omega)]))
            omega) (okIt_ut (by omega))
          rw [hw] at hio
          rw [hio.2.2.1] at he
          exact hn _ M2 (no _ he.symm) g2
  exact key (T.2 + 1) 0 0 Y0 N8 (by omega) (Nat.zero_le _) (Nat.zero_le _) g8 Y0_ok hRd.symm
end CIsl2
