/-! THE MODEL reads a law: a clause, all of them -/
theorem ixm140 {t c : Nat} {v : Int} (ht : t < 1000) (hc : c < 1000) (hv : v = w32 (w32 (140 * (t : Int)) + (c : Int))) : v = ((140 * t + c : Nat) : Int) := by
  rw [w32_i (z := 140 * (t : Int)) (by omega) (by omega), w32_i (by omega) (by omega)] at hv
  omega
section MRead5
variable {d t : Nat} {M0 M M1 N B : jM} {Q : Option jV → jM → Prop} {T : jT} {a c w : Nat} {L : jL}
theorem MLB.m5 (h : MLB t M0 M w) (k : M5 M N) (e14 : iv N 468 14 = iv M 468 14) (e4 : iv N 468 4 = iv M 468 4) : MLB t M0 N w := ⟨h.1.trans k.mg, e14.trans h.2.1, e4.trans h.2.2⟩
theorem m_71B {e : Nat} {k : Int} {l2 : Option jV} (he : 6 ≤ e) (hS : Shp M) (g : MLB t M0 M w) (h : ∀ N, MLB t M0 N w → Q none N) : Run (e + 1) mX11_clause 71 [some (vR 468), some (vI k), l2] [] M Q := by
  refine vn_clause_71 (by omega) hS (fun N hN _ => ?_)
  have g2 := g.m5 (M5.refl.si hN (Or.inl rfl)) (si_ne hN (by decide)) (si_ne hN (by decide))
  exact ⟨fun z => absurd z (by rw [g2.2.2]; omega), fun _ => h N g2⟩
theorem m_40B {e : Nat} {k : Int} {l2 : Option jV} (he : 6 ≤ e) (hS : Shp M) (g : MLB t M0 M w) (h : ∀ N, MLB t M0 N w → Q none N) : Run (e + 1) mX11_clause 40 [some (vR 468), some (vI k), l2] [] M Q := by
  refine vn_clause_40 (by omega) hS (fun N hN sN => ?_)
  have g2 := g.m5 (M5.refl.si hN (Or.inl rfl)) (si_ne hN (by decide)) (si_ne hN (by decide))
  exact ⟨fun _ => m_71B he sN g2 h, fun z => absurd (by rw [g2.2.2]; omega) z⟩
theorem m_clause (hd : 720 ≤ d) (hS0 : Shp M0) (hT0 : MT M0 T) (ht : t < 5) (g : MLA t M0 M a L) (ha : a ≤ T.2) (hl : L.1.length ≤ a) (h4 : 4 * L.2.length ≤ a) (hy : ∀ q lc ls N, clF T a = .inr (q, lc, ls) → MLA t M0 N q (L.1 ++ (lc ++ ls), L.2 ++ [(L.1.length, L.1.length + lc.length, L.1.length + (lc.length + ls.length))]) → Q none N) (hn : ∀ w N, clF T a = .inl w → MLB t M0 N w → Q none N) : Call d mX11_clause [vR 468] M Q := by
  obtain ⟨e, rfl⟩ := dd (d := d) (by omega)
  have hS := g.1.1.shp hS0
  have hT := g.1.mt hT0
  have h240 := hT.2.1
  obtain ⟨g1, ⟨g14, g3, g4, g5⟩, ⟨g72, g73⟩, gR, gc, gC⟩ := g
  have hk1 := (skT_in (T := T) a).1
  unfold clF at hy hn
  refine vn_clause (by omega) hS ?_
  rw [g14, Int.toNat_natCast, g73]
  refine ⟨⟨by omega, by omega⟩, fun v2 hv2 => ⟨fun z => absurd g4 z, fun _ => m_look (by omega) hS hT g3 (fun M5 k5 e5 => ⟨_, rfl, k5.1.shp hS, fun z => ?_, fun z N hN sN => ?_⟩)⟩⟩
  · have ev := ixm140 (show t < 1000 by omega) (show L.2.length < 1000 by omega) hv2
    clear hv2
    rw [ev]
    clear ev
    rw [if_neg (fun y => y z)] at hy hn
    have hlt : skT T a < T.2 := nxT_lt (by rw [z]; decide)
    have s5 := k5.1.shp hS
    have hk2 := (skT_in (T := T) (skT T a + 1)).1
    refine vn_clause_40 (by omega) s5 (fun N hN sN => ?_)
    rw [e5, w32s (by omega)] at hN
    have kN : MN M N := k5.si hN
    have e3N : iv N 468 3 = ((skT T a + 1 : Nat) : Int) := si_at hN
    have e4N : iv N 468 4 = -1 := (kN.2 4 (by decide)).trans g4
    refine ⟨fun y => absurd e4N y, fun _ => m_look (by omega) sN ((kN.m5.mg (t := t)).mt hT) e3N (fun M6 k6 e6 => ⟨_, rfl, k6.1.shp sN, fun z2 => ?_, fun z2 N2 hN2 s2 => ?_⟩)⟩
    · rw [if_neg (fun y => y z2)] at hy hn
      have hlt2 : skT T (skT T a + 1) < T.2 := nxT_lt (by rw [z2]; decide)
      have s6 := k6.1.shp sN
      refine vn_clause_71 (by omega) s6 (fun N3 hN3 s3 => ?_)
      rw [e6, w32s (by omega)] at hN3
      have k3 : MN M N3 := (kN.trans k6).si hN3
      have p14 : iv N3 468 14 = (t : Int) := (k3.2 14 (by decide)).trans g14
      have p4 : iv N3 468 4 = -1 := (k3.2 4 (by decide)).trans g4
      have p72 : iv N3 472 t = (L.1.length : Int) := by rw [k3.1.eiv (by decide)]; exact g72
      rw [p14, Int.toNat_natCast, Int.toNat_natCast, p72]
      refine ⟨fun _ => ⟨⟨by omega, by omega⟩, ⟨by omega, by omega⟩, fun N4 hN4 s4 => ?_⟩, fun y => absurd p4 y⟩
      -- the clause's code begins at b
      obtain ⟨b, hb⟩ : ∃ b, b = skT T (skT T a + 1) + 1 := ⟨_, rfl⟩
      rw [← hb] at hy hn
      have hbT : b ≤ T.2 := by omega
      have hkb := (skT_in (T := T) b).1
      have hkb2 := (skT_in (T := T) b).2 hbT
      have g4m : MG t M N4 := k3.m5.mg.trans (MG.cell (Or.inl rfl) ⟨by omega, by omega⟩ hN4)
      have r4 : ∀ r, r ≠ 474 → iv N4 r = iv N3 r := fun r y => funext (fun i => by rw [hN4, iv_si, if_neg (by omega)])
      have c474 : ∀ j, iv N4 474 j = if j = 140 * t + L.2.length then (L.1.length : Int) else iv M 474 j := fun j => by
        rw [hN4, iv_si, k3.1.eiv (by decide)]
        by_cases y : j = 140 * t + L.2.length
        · rw [if_pos ⟨rfl, y⟩, if_pos y]
        · rw [if_neg (by omega), if_neg y]
      have q3 : iv N4 468 3 = (b : Int) := by rw [r4 468 (by decide), si_at hN3, hb]
      have T4 := g4m.mt hT
      have base : ∀ B, MN N4 B → Shp B ∧ MG t M B ∧ iv B 468 14 = (t : Int) ∧ iv B 468 4 = -1 ∧ iv B 468 5 = ((0 : Nat) : Int) ∧ iv B 472 t = (L.1.length : Int) ∧ iv B 473 t = (L.2.length : Int) ∧ iv B 474 (140 * t + L.2.length) = (L.1.length : Int) ∧ (∀ j, j < L.1.length → iv B 470 (520 * t + j) = iv M 470 (520 * t + j) ∧ iv B 471 (520 * t + j) = iv M 471 (520 * t + j)) ∧ ∀ j, j < L.2.length → iv B 474 (140 * t + j) = iv M 474 (140 * t + j) ∧ iv B 475 (140 * t + j) = iv M 475 (140 * t + j) ∧ iv B 476 (140 * t + j) = iv M 476 (140 * t + j) := by
        intro B kB
        refine ⟨kB.1.shp s4, g4m.trans kB.m5.mg, ?_, ?_, ?_, ?_, ?_, ?_, fun j hj => ⟨?_, ?_⟩, fun j hj => ⟨?_, ?_, ?_⟩⟩
        · rw [kB.2 14 (by decide), r4 468 (by decide)]; exact p14
        · rw [kB.2 4 (by decide), r4 468 (by decide)]; exact p4
        · rw [kB.2 5 (by decide), r4 468 (by decide), k3.2 5 (by decide)]; exact g5
        · rw [kB.1.eiv (by decide), r4 472 (by decide)]; exact p72
        · rw [kB.1.eiv (by decide), r4 473 (by decide), k3.1.eiv (by decide)]; exact g73
        · rw [kB.1.eiv (by decide), c474, if_pos rfl]
        · rw [kB.1.eiv (by decide), r4 470 (by decide), k3.1.eiv (by decide)]
        · rw [kB.1.eiv (by decide), r4 471 (by decide), k3.1.eiv (by decide)]
        · rw [kB.1.eiv (by decide), c474, if_neg (by omega)]
        · rw [kB.1.eiv (by decide), r4 475 (by decide), k3.1.eiv (by decide)]
        · rw [kB.1.eiv (by decide), r4 476 (by decide), k3.1.eiv (by decide)]
      have fin : ∀ B, MN N4 B → ∀ N q lc ls, clB T b = .inr (q, lc, ls) → MC t L.1.length L.2.length B N q lc ls → Q none N := by
        intro B kB N q lc ls hcl hC
        obtain ⟨b1, b2, b3, b4, b5, b6, b7, b8, b9, b10⟩ := base B kB
        exact hy q lc ls N hcl (MLA.fin ⟨g1, ⟨g14, g3, g4, g5⟩, ⟨g72, g73⟩, gR, gc, gC⟩ b2 b9 b10 b8 hC)
      have bad : ∀ B, MN N4 B → ∀ N w, clB T b = .inl w → MG t B N → iv N 468 14 = (t : Int) → iv N 468 4 = (w : Int) → Q none N := by
        intro B kB N w hcl hG h14 hw
        exact hn w N hcl ⟨g1.trans ((base B kB).2.1.trans hG), h14, hw⟩
      have cond : ∀ B M8 r, MN N4 B → MO t L.1.length (skT T b) 0 B M8 r → okR T b r → clB T b = qsF T r → Run (e + 1) mX11_clause 184 [some (vR 468), some (vI ((140 * t + L.2.length : Nat) : Int)), some (vI 1)] [] M8 Q := by
        intro B M8 r kB hO hok hcl
        obtain ⟨b1, b2, b3, b4, b5, b6, b7, b8, b9, b10⟩ := base B kB
        have s8 := hO.mf.shp b1
        cases r with
        | inl w => exact m_184B (w := w) (by omega) s8 ht (by rw [hO.mf.2.1 14 (by decide) (by decide) (by decide)]; exact b3) (by omega) (by rw [hO.mf.1.eiv (by decide)]; exact b7) hO.lft.2.1 (fun N gN n14 n4 => bad B kB N w hcl (hO.mf.mg.trans gN) n14 n4)
        | inr x =>
          obtain ⟨q, lc⟩ := x
          obtain ⟨o1, o2, o3⟩ := hok
          exact m_184C (by omega) b1 (b2.mt hT) ht b3 (by omega) b7 hO.rgt (by omega) o3 (fun q' ls N hv hC => fin B kB N q' lc ls (hcl.trans hv) hC) (fun w N hv gN n14 n4 => bad B kB N w (hcl.trans hv) gN n14 n4)
      have usk : unK T 6 (skT T b) = unK T 6 b := by
        rw [unK_e]
        unfold unF
        rw [nxT_sk, skT_sk, smK_sk]
      have goC : ∀ B, MN N4 B → iv B 468 3 = ((skT T b : Nat) : Int) → (nxT T b = 33 ∨ nxT T b = 40) → Call e mX11_condition [vR 468] B (fun r87 M85 => r87 = none ∧ Shp M85 ∧ (Run (e + 1) mX11_clause 184 [some (vR 468), some (vI ((140 * t + L.2.length : Nat) : Int)), some (vI 1)] [] M85 Q)) := by
        intro B kB eB hc
        obtain ⟨b1, b2, b3, b4, b5, b6, b7, b8, b9, b10⟩ := base B kB
        have hB : clB T b = qsF T (cdF T (unK T 6) (unK T 6 b)) := if_pos hc
        refine (MP_unK (T := T) 6).2 e B _ (skT T b) L.1.length t 0 (by omega) b1 (b2.mt hT) ht b3 eB hkb2 b4 b5 rfl b6 (by omega) (fun M8 hO => ⟨rfl, hO.mf.shp b1, ?_⟩)
        have hO : MO t L.1.length (skT T b) 0 B M8 (cdF T (unK T 6) (unK T 6 (skT T b))) := hO
        rw [usk] at hO
        exact cond B M8 _ kB hO (okR_cd (okP_unK (T := T) 6) (okP_unK (T := T) 6 b hbT)) hB
      refine m_look (by omega) s4 T4 q3 (fun M7 k7 e7 => ⟨_, rfl, k7.1.shp s4, fun y => ?_, fun y => ?_⟩)
      · exact vn_clause_129 (by omega) (k7.1.shp s4) ⟨fun x => absurd x (by decide), fun _ => goC M7 k7 e7 (Or.inl y)⟩
      · have s7 := k7.1.shp s4
        refine m_look (a := skT T b) (by omega) s7 ((k7.m5.mg (t := t)).mt T4) e7 (fun M8 k8 e8 => ⟨_, rfl, k8.1.shp s7, ?_⟩)
        rw [nxT_sk]
        rw [skT_sk] at e8
        have k78 := k7.trans k8
        have s8 := k78.1.shp s4
        by_cases y2 : nxT T b = 40
        · rw [if_neg (fun x => x y2)]
          exact vn_clause_129 (by omega) s8 ⟨fun x => absurd x (by decide), fun _ => goC M8 k78 e8 (Or.inr y2)⟩
        · rw [if_pos y2]
          obtain ⟨b1, b2, b3, b4, b5, b6, b7, b8, b9, b10⟩ := base M8 k78
          have hB : clB T b = (match smK T 6 b with
            | .inl w => .inl w
            | .inr (q, l) => if fSg (nxT T q) = 1 then qsF T (cdF T (unK T 6) (cmF T (smK T 6) (.inr (q, l)))) else .inr (skT T q, [], l)) := if_neg (fun x => x.elim y y2)
          refine vn_clause_129 (by omega) s8 ⟨fun _ => MP_smK (T := T) 6 e M8 _ (skT T b) L.1.length t 0 (by omega) b1 (b2.mt hT) ht b3 e8 hkb2 b4 b5 rfl b6 (by omega) (fun M9 hO => ⟨rfl, hO.mf.shp b1, ?_⟩), fun x => absurd rfl x⟩
          rw [smK_sk] at hO
          have s9 := hO.mf.shp b1
          have hok := okP_smK (T := T) 6 b hbT
          have m14 : iv M9 468 14 = (t : Int) := by rw [hO.mf.2.1 14 (by decide) (by decide) (by decide)]; exact b3
          have m73 : iv M9 473 t = (L.2.length : Int) := by rw [hO.mf.1.eiv (by decide)]; exact b7
          cases hr : smK T 6 b with
          | inl w =>
            rw [hr] at hO hB
            exact ⟨fun _ => m_184B (w := w) (by omega) s9 ht m14 (by omega) m73 hO.lft.2.1 (fun N gN n14 n4 => bad M8 k78 N w hB (hO.mf.mg.trans gN) n14 n4), fun x => absurd hO.lft.wr x⟩
          | inr x =>
            obtain ⟨q, l⟩ := x
            rw [hr] at hO hB hok
            dsimp only at hB
            obtain ⟨o1, o2, o3⟩ := hok
            have gA := hO.rgt
            refine ⟨fun x => absurd gA.wr x, fun _ => m_look (by omega) s9 (gA.1.mt (b2.mt hT)) gA.2.1.1 (fun Ma ka ea => ⟨_, rfl, ka.1.shp s9, fun x => ?_, fun x => ?_⟩)⟩
            · have hz : ¬ fSg (nxT T q) = 1 := by
                intro v
                rw [if_neg (by rw [v]; decide)] at x
                exact absurd x (by decide)
              rw [x]
              rw [if_neg hz] at hB
              exact m_184S (by omega) b1 ht b3 (by omega) b7 b8 (gA.next ka ea) (fun N hC => fin M8 k78 N _ _ _ hB hC)
            · have hz : fSg (nxT T q) = 1 := by
                rw [← fSg_0]
                intro v
                rw [if_pos v] at x
                exact x rfl
              have x1 : (if fSg (nxT T q) = 0 then (0 : Int) else 1) = 1 := by rw [if_neg (by rw [hz]; decide)]
              rw [x1]
              rw [if_pos hz] at hB
              have ga := gA.next ka ea
              have hkq := (skT_in (T := T) q).1
              have csk : cmF T (smK T 6) (.inr (skT T q, l)) = cmF T (smK T 6) (.inr (q, l)) := by
                unfold cmF
                dsimp only
                rw [nxT_sk, skT_sk]
              obtain ⟨u1, _⟩ := MP_unK (T := T) 6
              have h1 := MZ_an u1 (okP_unK (T := T) 6)
              have h2 := MZ_or (D := 90 * 6 + 60 + 9) (s2 := fun b => chB T oN (unK T 6) (unK T 6 b)) (fun _ => rfl) (fun kk M Q a n t dp hk => u1 kk M Q a n t dp (by omega)) (okP_unK (T := T) 6) h1 (fun b hb => okR_ch (okP_unK (T := T) 6) rfl (okP_unK (T := T) 6 b hb))
              have ok0 : okR T b (cmF T (smK T 6) (.inr (q, l))) := okR_cm (okP_smK (T := T) 6) (r := .inr (q, l)) ⟨o1, o2, o3⟩
              have okb : ∀ r, okR T b r → okQ T (skT T b) r ∨ True := fun _ _ => Or.inr trivial
              have okq0 : okQ T L.1.length (cmF T (smK T 6) (.inr (q, l))) := by
                have := cmF_ok (T := T) (k := 6) (a := q) (n := L.1.length) (l := l) (by omega) o3
                revert this
                cases cmF T (smK T 6) (.inr (q, l)) with
                | inl w => exact fun _ => trivial
                | inr y => exact fun h => h
              refine m_cmp (a := L.1.length) (MP_smK (T := T) 6) (okP_smK (T := T) 6) (by omega) b1 (b2.mt hT) ht b3 rfl (Nat.le_refl _) (by omega) ((skT_in (T := T) q).2 o3) ga (fun Mb hOb => ⟨rfl, hOb.mf.shp b1, ?_⟩)
              rw [csk] at hOb
              refine h1 e M8 Mb _ L.1.length L.1.length t 0 _ (by omega) b1 (b2.mt hT) ht b3 rfl (Nat.le_refl _) okq0 hOb (fun Mc hOc => ⟨rfl, hOc.mf.shp b1, ?_⟩)
              have okq1 : okQ T L.1.length (chB T oN (unK T 6) (cmF T (smK T 6) (.inr (q, l)))) := okQ_ch (okP_unK (T := T) 6) rfl okq0
              refine h2 e M8 Mc _ L.1.length L.1.length t 0 _ (by omega) b1 (b2.mt hT) ht b3 rfl (Nat.le_refl _) okq1 hOc (fun Md hOd => ⟨rfl, hOd.mf.shp b1, ?_⟩)
              have okd := okR_cd (okP_unK (T := T) 6) ok0
              have hOd : MO t L.1.length L.1.length 0 M8 Md (cdF T (unK T 6) (cmF T (smK T 6) (.inr (q, l)))) := hOd
              have sd := hOd.mf.shp b1
              cases hr2 : cdF T (unK T 6) (cmF T (smK T 6) (.inr (q, l))) with
              | inl w =>
                rw [hr2] at hOd hB
                exact m_184B (w := w) (by omega) sd ht (by rw [hOd.mf.2.1 14 (by decide) (by decide) (by decide)]; exact b3) (by omega) (by rw [hOd.mf.1.eiv (by decide)]; exact b7) hOd.lft.2.1 (fun N gN n14 n4 => bad M8 k78 N w hB (hOd.mf.mg.trans gN) n14 n4)
              | inr y =>
                obtain ⟨q2, lc⟩ := y
                rw [hr2] at hOd hB okd
                obtain ⟨p1, p2, p3⟩ := okd
                exact m_184C (by omega) b1 (b2.mt hT) ht b3 (by omega) b7 hOd.rgt (by omega) p3 (fun q' ls N hv hC => fin M8 k78 N q' lc ls (hB.trans hv) hC) (fun w N hv gN n14 n4 => bad M8 k78 N w (hB.trans hv) gN n14 n4)
    · rw [if_pos z2] at hn
      have w6 : iv M6 468 4 = -1 := (k6.2 4 (by decide)).trans e4N
      rw [w6, if_pos rfl, e6] at hN2
      refine m_71B (w := skT T (skT T a + 1)) (by omega) s2 ⟨g1.trans (((kN.trans k6).m5.si hN2 (Or.inr (Or.inl rfl))).mg), ?_, si_at hN2⟩ (fun N3 hB => hn _ N3 rfl hB)
      rw [si_ne hN2 (by decide), (kN.trans k6).2 14 (by decide)]
      exact g14
  · rw [if_pos z] at hn
    have w5 : iv M5 468 4 = -1 := (k5.2 4 (by decide)).trans g4
    rw [w5, if_pos rfl, e5] at hN
    refine m_40B (w := skT T a) (by omega) sN ⟨g1.trans ((k5.m5.si hN (Or.inr (Or.inl rfl))).mg), ?_, si_at hN⟩ (fun N3 hB => hn _ N3 rfl hB)
    rw [si_ne hN (by decide), k5.2 14 (by decide)]
    exact g14
theorem m_open (hd : 7 ≤ d) (hS : Shp M) (ht : t < 5) (h : ∀ N, MLA t M N 0 ([], []) → Q none N) : Call d mX11_open [vR 468, vI (t : Int)] M Q := by
  obtain ⟨e, rfl⟩ := dd (d := d) (by omega)
  refine vn_open (by omega) hS (fun N1 h1 _ N2 h2 _ N3 h3 _ N4 h4 _ => ⟨⟨by omega, by omega⟩, fun N5 h5 _ N6 h6 _ => h N6 ?_⟩)
  rw [Int.toNat_natCast] at h5 h6
  have f : ∀ r i, ¬ (r = 468 ∧ (i = 14 ∨ i = 3 ∨ i = 4 ∨ i = 5)) → ¬ ((r = 472 ∨ r = 473) ∧ i = t) → iv N6 r i = iv M r i := fun r i z1 z2 => by
    rw [h6, iv_si, if_neg (by omega), h5, iv_si, if_neg (by omega), h4, iv_si, if_neg (by omega), h3, iv_si, if_neg (by omega), h2, iv_si, if_neg (by omega), h1, iv_si, if_neg (by omega)]
  have e68 : ∀ i, iv N6 468 i = iv N4 468 i := fun i => by rw [h6, iv_si, if_neg (by omega), h5, iv_si, if_neg (by omega)]
  refine ⟨⟨?_, fun i i3 i4 i5 i14 => f _ _ (by omega) (by omega), fun i hi => ⟨f _ _ (by omega) (by omega), f _ _ (by omega) (by omega)⟩, fun i _ => ⟨f _ _ (by omega) (by omega), f _ _ (by omega) (by omega)⟩, fun i _ => ⟨f _ _ (by omega) (by omega), f _ _ (by omega) (by omega), f _ _ (by omega) (by omega)⟩⟩, ⟨?_, ?_, ?_, ?_⟩, ⟨?_, ?_⟩, trivial, fun j hj => absurd hj (Nat.not_lt_zero _), trivial⟩
  · rw [h6, h5, h4, h3, h2, h1]
    exact ((((((Fr.refl).ps (Or.inl rfl)).ps (Or.inl rfl)).ps (Or.inl rfl)).ps (Or.inl rfl)).ps (Or.inr ⟨by decide, by decide⟩)).ps (Or.inr ⟨by decide, by decide⟩)
  · rw [e68, si_ne h4 (by decide), si_ne h3 (by decide), si_ne h2 (by decide), si_at h1]
  · rw [e68, si_ne h4 (by decide), si_ne h3 (by decide), si_at h2]; rfl
  · rw [e68, si_ne h4 (by decide), si_at h3]
  · rw [e68, si_at h4]
  · rw [h6, iv_si, if_neg (by omega), si_at h5]; rfl
  · rw [si_at h6]; rfl
theorem m_atEnd (hd : 8 ≤ d) (hS : Shp M) (hT : MT M T) (ha : iv M 468 3 = (a : Int)) (hB : ∀ w : Nat, iv M 468 4 = (w : Int) → Q (some (vI (w : Int))) M) (hy : iv M 468 4 = -1 → nxT T a = -1 → ∀ N, MN M N → iv N 468 3 = ((skT T a : Nat) : Int) → Q (some (vI (-1))) N) (hn : iv M 468 4 = -1 → nxT T a ≠ -1 → ∀ N, M5 M N → iv N 468 14 = iv M 468 14 → iv N 468 4 = ((skT T a : Nat) : Int) → Q (some (vI ((skT T a : Nat) : Int))) N) (hw : iv M 468 4 = -1 ∨ ∃ w : Nat, iv M 468 4 = (w : Int)) : Call d mX11_atEnd [vR 468] M Q := by
  obtain ⟨e, rfl⟩ := dd (d := d) (by omega)
  refine vn_atEnd (by omega) hS ⟨fun z => ?_, fun z => m_look (by omega) hS hT ha (fun M3 k3 e3 => ⟨_, rfl, k3.1.shp hS, fun y => ?_, fun y N hN _ => ?_⟩)⟩
  · rcases hw with hw | ⟨w, hw⟩
    · exact absurd hw z
    · rw [hw]; exact hB w hw
  · have z := Classical.not_not.mp z
    rw [k3.2 4 (by decide), z]
    exact hy z y M3 k3 e3
  · have z := Classical.not_not.mp z
    have w3 : iv M3 468 4 = -1 := (k3.2 4 (by decide)).trans z
    rw [w3, if_pos rfl, e3] at hN
    rw [si_at hN]
    exact hn z y N (k3.m5.si hN (Or.inr (Or.inl rfl))) (by rw [si_ne hN (by decide), k3.2 14 (by decide)]) (si_at hN)
theorem m_readLaw (hd : 722 ≤ d) (hS : Shp M) (hT : MT M T) (ht : t < 5) (hy : ∀ q L N, lwT T = .inr L → MLA t M N q L → Q (some (vI (-1))) N) (hn : ∀ w N, lwT T = .inl w → MG t M N → Q (some (vI ((w : Nat) : Int))) N) : Call d mX11_readLaw [vR 468, vI (t : Int)] M Q := by
  obtain ⟨e, rfl⟩ := dd (d := d) (by omega)
  have h240 := hT.2.1
  have key : ∀ f a L M1, T.2 + 1 - a ≤ f → a ≤ T.2 → MLA t M M1 a L → L.1.length ≤ a → 4 * L.2.length ≤ a → (∀ q L' N, lwF T f a L = .inr L' → MLA t M N q L' → Q (some (vI (-1))) N) → (∀ w N, lwF T f a L = .inl w → MG t M N → Q (some (vI ((w : Nat) : Int))) N) → Call e mX11_clause [vR 468] M1 (fun r9 M7 => r9 = none ∧ Shp M7 ∧ (Run (e + 1) mX11_readLaw 9 [some (vR 468), some (vI (t : Int))] [] M7 Q)) := by
    intro f
    induction f with
    | zero => intro a L M1 hf ha; omega
    | succ f ih =>
      intro a L M1 hf ha g hl h4 hy hn
      simp only [lwF] at hy hn
      refine m_clause (by omega) hS hT ht g ha hl h4 (fun q lc ls N hcl g2 => ⟨rfl, g2.1.1.shp hS, ?_⟩) (fun w N hcl g2 => ⟨rfl, g2.1.1.shp hS, ?_⟩)
      · have s2 := g2.1.1.shp hS
        have hok := okC_cl (T := T) ha
        rw [hcl] at hok hy hn
        obtain ⟨o1, o2, o3⟩ := hok
        dsimp only at hy hn
        have hk := (skT_in (T := T) q).1
        obtain ⟨p1, ⟨p14, p3, p4, p5⟩, p6, p7, p8, p9⟩ := g2
        have nx : ∀ (a' : Nat) M3, MN N M3 → iv M3 468 3 = (a' : Int) → MLA t M M3 a' (L.1 ++ (lc ++ ls), L.2 ++ [(L.1.length, L.1.length + lc.length, L.1.length + (lc.length + ls.length))]) := by
          intro a' M3 k e3
          refine ⟨p1.trans k.m5.mg, ⟨(k.2 14 (by decide)).trans p14, e3, (k.2 4 (by decide)).trans p4, (k.2 5 (by decide)).trans p5⟩, ?_, ?_, ?_, ?_⟩
          · rw [k.1.eiv (by decide), k.1.eiv (by decide)]; exact p6
          · unfold mSg mVl at p7 ⊢; rw [k.1.eiv (by decide), k.1.eiv (by decide)]; exact p7
          · rw [k.1.eiv (by decide)]; exact p8
          · unfold mRow at p9 ⊢; rw [k.1.eiv (by decide), k.1.eiv (by decide), k.1.eiv (by decide)]; exact p9
        refine vn_readLaw_9 (by omega) s2 ⟨fun z => absurd p4 z, fun _ => m_look (by omega) s2 (p1.mt hT) p3 (fun M3 k3 e3 => ⟨_, rfl, k3.1.shp s2, fun z => ?_, fun z N4 h4' s4 => ?_⟩)⟩
        · have s3 := k3.1.shp s2
          have q4 : iv M3 468 4 = -1 := (k3.2 4 (by decide)).trans p4
          refine m_atEnd (a := skT T q) (by omega) s3 ((p1.trans k3.m5.mg).mt hT) e3 (fun w hw => absurd hw (by rw [q4]; omega)) (fun _ y N5 k5 e5 => ⟨_, rfl, k5.1.shp s3, ?_⟩) (fun _ y N5 k5 _ _ => ⟨_, rfl, k5.1.shp s3, ?_⟩) (Or.inl q4)
          · rw [nxT_sk] at y
            rw [if_pos y] at hy
            exact hy _ _ N5 rfl (nx _ N5 (k3.trans k5) e5)
          · rw [nxT_sk] at y
            rw [if_neg y, if_neg z] at hn
            rw [skT_sk]
            exact hn _ N5 rfl (p1.trans (k3.m5.trans k5).mg)
        · have z := Classical.not_not.mp z
          rw [if_neg (by rw [z]; decide), if_pos z] at hy hn
          have hlt : skT T q < T.2 := nxT_lt (by rw [z]; decide)
          rw [e3, w32s (by omega)] at h4'
          refine ih (skT T q + 1) _ N4 (by omega) (by omega) (nx _ N4 (k3.si h4') (si_at h4')) ?_ ?_ hy hn
          · show (L.1 ++ (lc ++ ls)).length ≤ _
            rw [List.length_append, List.length_append]
            omega
          · show 4 * (L.2 ++ _).length ≤ _
            rw [List.length_append]
            show 4 * (L.2.length + 1) ≤ _
            omega
      · rw [hcl] at hn
        have s2 := g2.1.1.shp hS
        have w2 := g2.2.2
        refine vn_readLaw_9 (by omega) s2 ⟨fun _ => ?_, fun z => absurd (by rw [w2]; omega) z⟩
        obtain ⟨e', rfl⟩ := dd (d := e) (by omega)
        refine vn_atEnd (by omega) s2 ⟨fun _ => ⟨_, rfl, s2, ?_⟩, fun z => absurd (by rw [w2]; omega) z⟩
        rw [w2]
        exact hn w N rfl g2.1
  refine vn_readLaw (by omega) hS (m_open (by omega) hS ht (fun N g => ⟨rfl, g.1.1.shp hS, ?_⟩))
  exact key (T.2 + 1) 0 ([], []) N (by omega) (Nat.zero_le _) g (Nat.le_refl _) (Nat.le_refl _) hy hn
end MRead5
