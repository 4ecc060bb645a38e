/-! THE MODEL reads an island: all of it -/
section MIsl4
variable {d a w : Nat} {M0 M M1 N : jM} {Q : Option jV → jM → Prop} {T : jT} {Y : jY}
theorem ixw4 {i : Nat} (hi : i < 1000) : w32 ((4 : Int) * (i : Int)) = ((4 * i : Nat) : Int) := by
  rw [w32_i (by omega) (by omega)]
  omega
theorem ixw3 {i : Nat} (hi : i < 1000) : w32 ((3 : Int) * (i : Int)) = ((3 * i : Nat) : Int) := by
  rw [w32_i (by omega) (by omega)]
  omega
theorem NB.cg (h : NB M Y) (h68 : ∀ i, i = 20 ∨ i = 21 → iv N 468 i = iv M 468 i) (h79 : iv N 479 = iv M 479) (h80 : iv N 480 = iv M 480) (h81 : iv N 481 = iv M 481) : NB N Y := by
  obtain ⟨b1, b2, b3, b4, b5⟩ := h
  exact ⟨by rw [h68 20 (Or.inl rfl)]; exact b1, by rw [h68 21 (Or.inr rfl)]; exact b2, by rw [h79]; exact b3, by rw [h80]; exact b4, by rw [h81]; exact b5⟩
theorem NB.mn (h : NB M Y) (k : MN M N) : NB N Y := h.cg (fun i hi => k.2 i (by omega)) (k.1.eiv (by decide)) (k.1.eiv (by decide)) (k.1.eiv (by decide))
theorem NB.s34 {i : Nat} {v : Int} (h : NB M Y) (hN : N = si M 468 i v) (hi : i = 3 ∨ i = 4) : NB N Y := by
  have f : Fr (fun r => r = 468) M N := by rw [hN]; exact fr_si rfl
  exact h.cg (fun j hj => by rw [hN, iv_si, if_neg (by omega)]) (f.eiv (by decide)) (f.eiv (by decide)) (f.eiv (by decide))
theorem m_readIsl (hd : 14 ≤ d) (hS : Shp M) (hT : MT M T) (hO : OKT T) (hy : ∀ Y M', isT T = .inr Y → NI M M' → iv M' 468 4 = -1 → NB M' Y → Q (some (vI (-1))) M') (hn : ∀ w M', isT T = .inl w → NI M M' → iv M' 468 4 = ((w : Nat) : Int) → Q (some (vI (w : Int))) M') : Call d mX11_readIsland [vR 468] M Q := by
  obtain ⟨e, rfl⟩ := dd (d := d) (by omega)
  have h240 := hT.2.1
  obtain ⟨R, hRd⟩ : ∃ R, R = ilF T (T.2 + 1) 0 Y0 := ⟨_, rfl⟩
  -- a fault told
  have aftN : ∀ (M5 : jM) (w : Nat) (l1 c : Int), NIB M M5 w → R = .inl w → Run (e + 1) mX11_readIsland 214 [some (vR 468), some (vI l1), some (vI 1), some (vI c)] [] M5 Q := by
    intro M5 w l1 c g hR
    have s5 := g.1.1.shp hS
    have w5 : iv M5 468 4 = (w : Int) := g.2
    have nw : iv M5 468 4 ≠ -1 := by rw [w5]; omega
    have hi : isT T = .inl w := by unfold isT; rw [← hRd, hR]
    refine vn_readIsland_214 (by omega) s5 ⟨fun _ => vn_readIsland_237 (by omega) s5 (fun N hN sN => ?_), fun z => absurd nw z⟩
    have e4 : iv N 468 4 = (w : Int) := by rw [si_ne hN (by decide)]; exact w5
    have nN : iv N 468 4 ≠ -1 := by rw [e4]; omega
    refine vn_readIsland_49 (by omega) sN ⟨fun _ => vn_readIsland_258 (by omega) sN ⟨fun _ => ?_, fun z => absurd nN z⟩, fun z => absurd rfl z⟩
    rw [e4]
    exact hn w N hi (g.1.s hN (Or.inl rfl)) e4
  have key : ∀ (f a : Nat) (Y : jY) (M1 : jM) (l3 : Option jV), T.2 + 1 ≤ f + a → a ≤ T.2 → NIA M M1 a Y → okYr Y → ilF T f a Y = R → Run (e + 1) mX11_readIsland 49 [some (vR 468), some (vI (if Y.rt = true then 1 else 0)), some (vI 1), l3] [] M1 Q := by
    intro f
    induction f with
    | zero =>
      intro a Y M1 l3 hf ha
      omega
    | succ f ih =>
      intro a Y M1 l3 hf ha g hY he
      obtain ⟨g1, g2, g3, g4⟩ := g
      have s1 := g1.1.shp hS
      have T1 := g1.mt hT
      simp only [ilF] at he
      have hk1 := (skT_in (T := T) a).1
      -- a clause read
      have aftY : ∀ (M5 : jM) (q : Nat) (Y' : jY) (c : Int), NIA M M5 q Y' → okYr Y' → q ≤ T.2 → a + 1 ≤ q → (if nxT T q = -1 then .inr (skT T q, Y') else if nxT T q = 59 then ilF T f (skT T q + 1) Y' else .inl (skT T q)) = R → Run (e + 1) mX11_readIsland 214 [some (vR 468), some (vI (if Y'.rt = true then 1 else 0)), some (vI 1), some (vI c)] [] M5 Q := by
        intro M5 q Y' c g5 hY' hq2 hq1 hR
        obtain ⟨p1, p2, p3, p4⟩ := g5
        have s5 := p1.1.shp hS
        have T5 := p1.mt hT
        have hsq := (skT_in (T := T) q).1
        have hsq2 := (skT_in (T := T) q).2 hq2
        refine vn_readIsland_214 (by omega) s5 ⟨fun z => absurd p3 z, fun _ => m_look (by omega) s5 T5 p2 (fun M6 k6 e6 => ⟨_, rfl, k6.1.shp s5, ?_⟩)⟩
        have s6 := k6.1.shp s5
        refine vn_readIsland_237 (by omega) s6 (fun N hN sN => ?_)
        have n4 : iv N 468 4 = -1 := by rw [si_ne hN (by decide), k6.2 4 (by decide)]; exact p3
        have nN : NI M N := (p1.trans k6.ni).s hN (Or.inl rfl)
        have bN : NB N Y' := (p4.mn k6).s34 hN (Or.inl rfl)
        by_cases c59 : nxT T q = 59
        · have hlt : skT T q < T.2 := nxT_lt (by rw [c59]; decide)
          rw [if_neg (by rw [c59]; decide), if_pos c59] at hR
          have e59 : (if nxT T q ≠ 59 then (0 : Int) else 1) = 1 := if_neg (fun x => x c59)
          rw [e59] at hN ⊢
          rw [e6, if_neg (show ¬ (1 : Int) = 0 by decide), w32s (by omega)] at hN
          exact ih (skT T q + 1) Y' N _ (by omega) (by omega) ⟨nN, si_at hN, n4, bN⟩ hY' hR
        · rw [if_pos c59]
          rw [e6, if_pos c59, if_pos rfl, w32_i (by omega) (by omega)] at hN
          have eN : iv N 468 3 = ((skT T q : Nat) : Int) := by rw [si_at hN]; omega
          refine vn_readIsland_49 (by omega) sN ⟨fun _ => vn_readIsland_258 (by omega) sN ⟨fun z => absurd n4 z, fun _ => m_look (by omega) sN (nN.mt hT) eN (fun M7 k7 e7 => ⟨_, rfl, k7.1.shp sN, fun z N2 hN2 s2 => ?_, fun z => ?_⟩)⟩, fun z => absurd rfl z⟩
          · rw [nxT_sk] at z
            rw [skT_sk] at e7
            rw [if_neg z, if_neg c59] at hR
            have n7 : iv M7 468 4 = -1 := (k7.2 4 (by decide)).trans n4
            rw [if_pos n7, e7] at hN2
            have e4 : iv N2 468 4 = ((skT T q : Nat) : Int) := si_at hN2
            rw [e4]
            exact hn _ N2 (by unfold isT; rw [← hRd, ← hR]) ((nN.trans k7.ni).s hN2 (Or.inr (Or.inl rfl))) e4
          · rw [nxT_sk] at z
            have z := Classical.not_not.mp z
            rw [skT_sk] at e7
            rw [if_pos z] at hR
            have s7 := k7.1.shp sN
            have n7 : iv M7 468 4 = -1 := (k7.2 4 (by decide)).trans n4
            have hit : isT T = if okYb Y' = true then .inr Y' else .inl (skT T q) := by
              unfold isT
              rw [← hRd, ← hR]
            refine m_isWhole (by omega) s7 (bN.mn k7) hY' (fun M8 f8 => ⟨_, rfl, f8.shp s7, fun z => ?_, fun z N2 hN2 s2 => ?_⟩)
            · have ok : okYb Y' = true := by
                by_cases c : okYb Y' = true
                · exact c
                · rw [if_neg c] at z; exact absurd rfl z
              rw [if_pos ok] at hit
              have n8 : iv M8 468 4 = -1 := by rw [f8.eiv (by decide)]; exact n7
              have q8 : NI M M8 := (nN.trans k7.ni).trans ⟨f8.mono (fun s hs => Or.inr (Or.inr hs)), fun i _ _ _ _ => by rw [f8.eiv (by decide)]⟩
              rw [n8]
              exact hy Y' M8 hit q8 n8 ((bN.mn k7).cg (fun i _ => by rw [f8.eiv (by decide)]) (f8.eiv (by decide)) (f8.eiv (by decide)) (f8.eiv (by decide)))
            · have nok : ¬ okYb Y' = true := fun c => by rw [if_pos c] at z; exact z (by decide)
              rw [if_neg nok] at hit
              have n8 : iv M8 468 4 = -1 := by rw [f8.eiv (by decide)]; exact n7
              have q8 : NI M M8 := (nN.trans k7.ni).trans ⟨f8.mono (fun s hs => Or.inr (Or.inr hs)), fun i _ _ _ _ => by rw [f8.eiv (by decide)]⟩
              rw [if_pos n8, show iv M8 468 3 = ((skT T q : Nat) : Int) by rw [f8.eiv (by decide)]; exact e7] at hN2
              have e4 : iv N2 468 4 = ((skT T q : Nat) : Int) := si_at hN2
              rw [e4]
              exact hn _ N2 hit (q8.s hN2 (Or.inr (Or.inl rfl))) e4
      obtain ⟨y1, y2, y3, y8, y12⟩ := hY
      have hY : okYr Y := ⟨y1, y2, y3, y8, y12⟩
      have hk3 := kdY_in (Y := Y) (c := nxT T a)
      refine vn_readIsland_49 (by omega) s1 ⟨fun z => absurd z (by decide), fun _ => ⟨fun z => absurd g3 z, fun _ => m_look (by omega) s1 T1 g2 (fun M2 k2 e2 => ⟨_, rfl, k2.1.shp s1, ?_⟩)⟩⟩
      have s2 := k2.1.shp s1
      have n2 : iv M2 468 4 = -1 := (k2.2 4 (by decide)).trans g3
      have q2 : NI M M2 := g1.trans k2.ni
      have b2 : NB M2 Y := g4.mn k2
      rw [b2.1, b2.2.1]
      -- the fault at the clause's letter
      have bad : ∀ (N : jM) (l1 c : Int), N = si M2 468 4 (if iv M2 468 4 = -1 then iv M2 468 3 else iv M2 468 4) → kdY Y (nxT T a) = -1 → Run (e + 1) mX11_readIsland 214 [some (vR 468), some (vI l1), some (vI 1), some (vI c)] [] N Q := by
        intro N l1 c hN hk
        rw [if_pos hk] at he
        rw [if_pos n2, e2] at hN
        exact aftN N _ l1 c ⟨q2.s hN (Or.inr (Or.inl rfl)), si_at hN⟩ he.symm
      -- a clause of a sort
      have goK : ∀ (st r fr : Nat) (B : Int) (N : jM) (PP : jM → Prop), kdY Y (nxT T a) = (st : Int) → ((r = 479 ∧ B = 4) ∨ (r = 480 ∧ B = 24) ∨ (r = 481 ∧ B = 48)) → ((fr + mnY st : Nat) : Int) ≤ B → N = si M2 468 3 (w32 (iv M2 468 3 + 1)) → (∀ q it' M', itY T st 4 (skT T a + 1) 0 (fun i => utY (4 * st + i)) = .inr (q, it') → okIt st it' → a + 1 ≤ q → q ≤ T.2 → MJ r N M' → iv M' 468 3 = ((q : Nat) : Int) → iv M' 468 4 = -1 → (∀ k, k < mnY st → iv M' r (fr + k) = it' k) → (∀ j, j < fr → iv M' r j = iv N r j) → PP M') → (∀ w M', R = .inl w → MJ r N M' → NIB M M' w → PP M') → Call e mX11_items [vR 468, vI (chY st), vR r, vI (fr : Int), vI (mnY st : Int)] N (fun v M' => v = none ∧ Shp M' ∧ PP M') := by
        intro st r fr B N PP hk hr hfr hN hyy hnn
        have hst : st < 3 := by omega
        have hlt : skT T a < T.2 := nxT_lt (fun x => by rw [x] at hk; revert hk; unfold kdY; rw [if_neg (by omega), if_neg (by omega), if_neg (by omega)]; omega)
        rw [if_neg (by omega), hk, Int.toNat_natCast] at he
        rw [e2, w32s (by omega)] at hN
        have sN : Shp N := by rw [hN]; exact (fr_si (P := fun r => r = 468) rfl).shp s2
        have qN : NI M N := q2.s hN (Or.inl rfl)
        have hr3 : 479 ≤ r ∧ r ≤ 481 := by omega
        have hio := itY_ok (T := T) hst 4 (skT T a + 1) 0 (fun i => utY (4 * st + i)) (by omega) (okIt_ut hst)
        refine m_items (T := T) (a := skT T a + 1) (by omega) sN (qN.mt hT) hO hst hr hfr (si_at hN) (by omega) (by rw [si_ne hN (by decide)]; exact n2) (fun q it' M' hi kj e3 e4 hv hl => ⟨rfl, kj.1.shp sN, ?_⟩) (fun w M' hi kj e4 => ⟨rfl, kj.1.shp sN, ?_⟩)
        · rw [hi] at hio
          exact hyy q it' M' hi hio.2.2.2 (by omega) hio.2.1 kj e3 e4 hv hl
        · rw [hi] at he
          exact hnn w M' he.symm kj ⟨qN.trans (kj.ni hr3), e4⟩
      have res : ∀ (st q : Nat) (it' : Nat → Int), kdY Y (nxT T a) = (st : Int) → itY T st 4 (skT T a + 1) 0 (fun i => utY (4 * st + i)) = .inr (q, it') → (if nxT T q = -1 then .inr (skT T q, kpY Y st it') else if nxT T q = 59 then ilF T f (skT T q + 1) (kpY Y st it') else .inl (skT T q)) = R := by
        intro st q it' hk hi
        rw [if_neg (by omega), hk, Int.toNat_natCast, hi] at he
        exact he
      have goT : ∀ N, nxT T a = 116 → ¬ (12 : Int) ≤ Y.nt → N = si M2 468 3 (w32 (iv M2 468 3 + 1)) → Call e mX11_items [vR 468, vI (nxT T a), vR 481, vI (w32 ((4 : Int) * (iv N 468 21))), vI (4 : Int)] N (fun r48 M46 => r48 = none ∧ Shp M46 ∧ (∀ N50 : jM, N50 = (si M46 468 21 (w32 ((iv M46 468 21) + (1 : Int)))) → Shp N50 → (Run (e + 1) mX11_readIsland 214 [some (vR 468), some (vI (if Y.rt = true then 1 else 0)), some (vI 1), some (vI (nxT T a))] [] N50 Q))) := by
        intro N hc h12 hN
        have hk : kdY Y (nxT T a) = ((2 : Nat) : Int) := by
          unfold kdY
          rw [if_neg (by omega), if_neg (by omega), if_pos ⟨hc, by omega⟩]
          rfl
        have qN : NI M N := q2.s hN (Or.inl rfl)
        have bN : NB N Y := b2.s34 hN (Or.inl rfl)
        rw [bN.2.1, ixw4 (by omega), show nxT T a = chY 2 from hc]
        refine goK 2 481 (4 * Y.nt) 48 N _ hk (Or.inr (Or.inr ⟨rfl, rfl⟩)) (by have : mnY 2 = 4 := rfl; omega) hN (fun q it' M' hi hok hq1 hq2 kj e3 e4 hv hl N5 hN5 s5 => ?_) (fun w M' hR kj g N5 hN5 s5 => ?_)
        · have r2 := res 2 q it' hk hi
          have hY' : okYr (kpY Y 2 it') := by
            have := kpY_ok (c := nxT T a) (it := it') hY (by omega) (by rw [hk]; exact hok)
            rw [hk] at this
            exact this
          have n21 : iv M' 468 21 = (Y.nt : Int) := (kj.2 21 (by decide) (by decide)).trans bN.2.1
          rw [n21, w32s (by omega)] at hN5
          have e5 : ∀ r, r ≠ 468 → iv N5 r = iv M' r := fun r hr => funext (fun i => by rw [hN5, iv_si, if_neg (by omega)])
          refine aftY N5 q (kpY Y 2 it') _ ⟨(qN.trans (kj.ni (by decide))).s hN5 (Or.inr (Or.inr (Or.inr rfl))), by rw [si_ne hN5 (by decide)]; exact e3, by rw [si_ne hN5 (by decide)]; exact e4, ?_⟩ hY' hq2 hq1 r2
          refine ⟨by rw [si_ne hN5 (by decide), kj.2 20 (by decide) (by decide)]; exact bN.1, si_at hN5, fun i hi => by rw [e5 479 (by decide), kj.1.eiv (by decide)]; exact bN.2.2.1 i hi, fun p hp k hk => by rw [e5 480 (by decide), kj.1.eiv (by decide)]; exact bN.2.2.2.1 p hp k hk, fun p hp k hk => ?_⟩
          have hp : p < Y.nt + 1 := hp
          rw [e5 481 (by decide)]
          show _ = if p = Y.nt then it' k else Y.th p k
          by_cases c : p = Y.nt
          · rw [if_pos c, c]; exact hv k hk
          · rw [if_neg c, hl _ (by omega)]; exact bN.2.2.2.2 p (by omega) k hk
        · refine aftN N5 w _ _ ⟨g.1.s hN5 (Or.inr (Or.inr (Or.inr rfl))), by rw [si_ne hN5 (by decide)]; exact g.2⟩ hR
      have goP : ∀ N, nxT T a = 112 → ¬ (8 : Int) ≤ Y.np → N = si M2 468 3 (w32 (iv M2 468 3 + 1)) → Call e mX11_items [vR 468, vI (nxT T a), vR 480, vI (w32 ((3 : Int) * (iv N 468 20))), vI (3 : Int)] N (fun r48 M46 => r48 = none ∧ Shp M46 ∧ (∀ N50 : jM, N50 = (si M46 468 20 (w32 ((iv M46 468 20) + (1 : Int)))) → Shp N50 → (Run (e + 1) mX11_readIsland 214 [some (vR 468), some (vI (if Y.rt = true then 1 else 0)), some (vI 1), some (vI (nxT T a))] [] N50 Q))) := by
        intro N hc h8 hN
        have hk : kdY Y (nxT T a) = ((1 : Nat) : Int) := by
          unfold kdY
          rw [if_neg (by omega), if_pos ⟨hc, by omega⟩]
          rfl
        have qN : NI M N := q2.s hN (Or.inl rfl)
        have bN : NB N Y := b2.s34 hN (Or.inl rfl)
        rw [bN.1, ixw3 (by omega), show nxT T a = chY 1 from hc]
        refine goK 1 480 (3 * Y.np) 24 N _ hk (Or.inr (Or.inl ⟨rfl, rfl⟩)) (by have : mnY 1 = 3 := rfl; omega) hN (fun q it' M' hi hok hq1 hq2 kj e3 e4 hv hl N5 hN5 s5 => ?_) (fun w M' hR kj g N5 hN5 s5 => ?_)
        · have r2 := res 1 q it' hk hi
          have hY' : okYr (kpY Y 1 it') := by
            have := kpY_ok (c := nxT T a) (it := it') hY (by omega) (by rw [hk]; exact hok)
            rw [hk] at this
            exact this
          have n20 : iv M' 468 20 = (Y.np : Int) := (kj.2 20 (by decide) (by decide)).trans bN.1
          rw [n20, w32s (by omega)] at hN5
          have e5 : ∀ r, r ≠ 468 → iv N5 r = iv M' r := fun r hr => funext (fun i => by rw [hN5, iv_si, if_neg (by omega)])
          refine aftY N5 q (kpY Y 1 it') _ ⟨(qN.trans (kj.ni (by decide))).s hN5 (Or.inr (Or.inr (Or.inl rfl))), by rw [si_ne hN5 (by decide)]; exact e3, by rw [si_ne hN5 (by decide)]; exact e4, ?_⟩ hY' hq2 hq1 r2
          refine ⟨si_at hN5, by rw [si_ne hN5 (by decide), kj.2 21 (by decide) (by decide)]; exact bN.2.1, fun i hi => by rw [e5 479 (by decide), kj.1.eiv (by decide)]; exact bN.2.2.1 i hi, fun p hp k hk => ?_, fun p hp k hk => by rw [e5 481 (by decide), kj.1.eiv (by decide)]; exact bN.2.2.2.2 p hp k hk⟩
          have hp : p < Y.np + 1 := hp
          rw [e5 480 (by decide)]
          show _ = if p = Y.np then it' k else Y.pr p k
          by_cases c : p = Y.np
          · rw [if_pos c, c]; exact hv k hk
          · rw [if_neg c, hl _ (by omega)]; exact bN.2.2.2.1 p (by omega) k hk
        · refine aftN N5 w _ _ ⟨g.1.s hN5 (Or.inr (Or.inr (Or.inl rfl))), by rw [si_ne hN5 (by decide)]; exact g.2⟩ hR
      have kT12 : nxT T a = 116 → (12 : Int) ≤ Y.nt → kdY Y (nxT T a) = -1 := fun x y => by
        unfold kdY
        rw [if_neg (by omega), if_neg (by omega), if_neg (by omega)]
      have kP8 : nxT T a = 112 → (8 : Int) ≤ Y.np → kdY Y (nxT T a) = -1 := fun x y => by
        unfold kdY
        rw [if_neg (by omega), if_neg (by omega), if_neg (by omega)]
      refine ⟨fun z => ⟨fun z2 => ⟨fun z3 N hN sN => bad N _ _ hN ?_, fun z3 => ⟨fun z4 N hN sN => bad N _ _ hN (kT12 (Classical.not_not.mp z3) z4), fun z4 N hN sN => goT N (Classical.not_not.mp z3) z4 hN⟩⟩, fun z2 => ⟨fun z4 => ⟨fun z3 N hN sN => bad N _ _ hN (kP8 (Classical.not_not.mp z2) z4), fun z3 => absurd (Classical.not_not.mp z3) (by omega)⟩, fun z4 N hN sN => goP N (Classical.not_not.mp z2) z4 hN⟩⟩, fun z => ⟨fun zr => ⟨fun z2 => ⟨fun z3 N hN sN => bad N _ _ hN ?_, fun z3 => absurd (Classical.not_not.mp z3) (by omega)⟩, fun z2 => absurd (Classical.not_not.mp z2) (by omega)⟩, fun zr N hN sN => ?_⟩⟩
      · unfold kdY
        rw [if_neg (by omega), if_neg (by omega), if_neg (by omega)]
      · have hrt : Y.rt = true := by
          cases hr : Y.rt with
          | true => rfl
          | false => rw [hr] at zr; exact absurd rfl zr
        unfold kdY
        rw [if_neg (fun x => by rw [hrt] at x; exact absurd x.2 (by decide)), if_neg (by omega), if_neg (by omega)]
      · have hc : nxT T a = 115 := Classical.not_not.mp z
        have hrt : Y.rt = false := by
          cases hr : Y.rt with
          | false => rfl
          | true => rw [hr] at zr; exact absurd (by decide) zr
        have hk : kdY Y (nxT T a) = ((0 : Nat) : Int) := by
          unfold kdY
          rw [if_pos ⟨hc, hrt⟩]
          rfl
        have qN : NI M N := q2.s hN (Or.inl rfl)
        have bN : NB N Y := b2.s34 hN (Or.inl rfl)
        rw [show nxT T a = chY 0 from hc]
        refine goK 0 479 0 4 N _ hk (Or.inl ⟨rfl, rfl⟩) (by have : mnY 0 = 4 := rfl; omega) hN (fun q it' M' hi hok hq1 hq2 kj e3 e4 hv hl => ?_) (fun w M' hR kj g => ?_)
        · have r2 := res 0 q it' hk hi
          have hY' : okYr (kpY Y 0 it') := by
            have := kpY_ok (c := nxT T a) (it := it') hY (by omega) (by rw [hk]; exact hok)
            rw [hk] at this
            exact this
          refine aftY M' q (kpY Y 0 it') _ ⟨qN.trans (kj.ni (by decide)), e3, e4, ?_⟩ hY' hq2 hq1 r2
          refine ⟨by rw [kj.2 20 (by decide) (by decide)]; exact bN.1, by rw [kj.2 21 (by decide) (by decide)]; exact bN.2.1, fun i hi => ?_, fun p hp k hk => by rw [kj.1.eiv (by decide)]; exact bN.2.2.2.1 p hp k hk, fun p hp k hk => by rw [kj.1.eiv (by decide)]; exact bN.2.2.2.2 p hp k hk⟩
          have := hv i hi
          rw [Nat.zero_add] at this
          exact this
        · exact aftN M' w _ _ g hR
  -- the start
  refine vn_readIsland (by omega) hS (fun N1 h1 _ N3 h3 _ N5 h5 _ N7 h7 s7 => ?_)
  have v7 : iv N7 468 3 = 0 ∧ iv N7 468 4 = -1 ∧ iv N7 468 20 = 0 ∧ iv N7 468 21 = 0 := by
    rw [h7, h5, h3, h1]
    simp [iv_si]
  have q7 : NI M N7 := (((NI.refl.s h1 (Or.inl rfl)).s h3 (Or.inr (Or.inl rfl))).s h5 (Or.inr (Or.inr (Or.inl rfl)))).s h7 (Or.inr (Or.inr (Or.inr rfl)))
  refine up_to (R := fun i => ∀ M1, Fr (fun r => r = 479) N7 M1 → (∀ k, k < i → iv M1 479 k = utY (4 * 0 + k)) → Run (e + 1) mX11_readIsland 24 [some (vR 468), some (vI 0), some (vI (i : Int)), none] [] M1 Q) 4 ?_ ?_ N7 Fr.refl (fun j hj => absurd hj (Nat.not_lt_zero _))
  · intro M1 f1 hr
    have e68 : ∀ i, iv M1 468 i = iv N7 468 i := fun i => by rw [f1.eiv (by decide)]
    refine vn_readIsland_24 (by omega) (f1.shp s7) ⟨fun _ => key (T.2 + 1) 0 Y0 M1 none (by omega) (Nat.zero_le _) ⟨q7.trans ⟨f1.mono (by intro s hs; omega), fun i _ _ _ _ => e68 i⟩, by rw [e68]; exact v7.1, by rw [e68]; exact v7.2.1, by rw [e68]; exact v7.2.2.1, by rw [e68]; exact v7.2.2.2, fun i hi => ?_, fun p hp => absurd hp (Nat.not_lt_zero _), fun k hk => absurd hk (Nat.not_lt_zero _)⟩ Y0_ok hRd.symm, fun z => absurd (by decide) z⟩
    rw [hr i hi, show 4 * 0 + i = i by omega]
    rfl
  · intro i hi ih M1 f1 hr
    have s1 := f1.shp s7
    refine vn_readIsland_24 (by omega) s1 ⟨fun z => absurd z (by omega), fun _ => m_usual (st := 0) (by omega) s1 (by decide) hi ⟨_, rfl, s1, ⟨by omega, by omega⟩, fun N hN sN => ?_⟩⟩
    rw [Int.toNat_natCast] at hN
    rw [w32s (by omega)]
    refine ih N (by rw [hN]; exact f1.ps rfl) (fun k hk => ?_)
    rw [hN, iv_si]
    by_cases c : k = i
    · rw [if_pos ⟨rfl, c⟩, c]
    · rw [if_neg (by omega)]; exact hr k (by omega)
end MIsl4
