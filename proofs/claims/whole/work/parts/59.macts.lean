/-! THE MODEL's acts over the world -/
def Bc (r : Nat) : Prop := r = 477 ∨ r = 478 ∨ r = 486 ∨ r = 488
def Bj (j : Nat) : Prop := j = 33 ∨ j = 34
theorem Bc_a {r : Nat} (h : Bc r) : Ya r := by unfold Bc at h; unfold Ya; omega
theorem Bj_a {j : Nat} (h : Bj j) : Yj j := by unfold Bj at h; unfold Yj; omega
section MActs
variable {d : Nat} {M : jM} {Q : Option jV → jM → Prop} {W : kW}
theorem FM.refl {M : jM} : FM M M := Fr.refl
theorem FM.trans {M M1 M2 : jM} (h : FM M M1) (k : FM M1 M2) : FM M M2 := Fr.trans h k
theorem CM.setA {M' : jM} {a : jA} (h : CM M W) (hf : F4 Bc Bj M M') (h1 : MRf (iv M' 486) W.I.np a.1) (h2 : MLg (iv M' 486) a.1) (h3 : PM M' W.I.np a.2.1 a.2.2) : CM M' (W.setA a) ∧ FM M M' := by
  refine ⟨h.act hf (fun r => Bc_a) (fun j => Bj_a) ⟨fun _ => h1, h2, h1.2.2.2.2, h3⟩ ?_ rfl rfl rfl rfl rfl rfl, FM.of hf (fun r => Bc_a)⟩
  have := h.rfu
  unfold RefM at this ⊢
  rw [hf.eiv (r := 487) (by unfold Bc; omega)]
  exact this
theorem M_ref (w : Nat) (hd : 8 ≤ d) (h : CM M W) (hw : w < 5) (k : ∀ M', FM M M' → CM M' (W.ref w) → ∃ z : Int, some (vI 1) = some (vI z) ∧ Shp M' ∧ Q (some (vI z)) M') : Call d mX11_isRefused [vR 468, vI (w : Int)] M (fun r M' => ∃ z : Int, r = some (vI z) ∧ Shp M' ∧ Q (some (vI z)) M') :=
  m_isRefused hd h.shp hw (k _ (h.ref hw).2 (h.ref hw).1)
/-- one refused: the tail of every act -/
theorem m_refd {A B : jM → Prop} (w : Nat) (hd : 8 ≤ d) (h : CM M W) (hw : w < 5) (k : ∀ M', FM M M' → CM M' (W.ref w) → B M') : Call d mX11_isRefused [vR 468, vI (w : Int)] M (fun r M' => ∃ z : Int, r = some (vI z) ∧ Shp M' ∧ ((z = 0 → A M') ∧ (¬ z = 0 → B M'))) :=
  m_isRefused hd h.shp hw ⟨1, rfl, (h.ref hw).1.shp, fun z => absurd z (by decide), fun _ => k _ (h.ref hw).2 (h.ref hw).1⟩
theorem m_nrefd {A B : jM → Prop} (hd : 8 ≤ d) (hS : Shp M) (k : A M) : Call d mX11_isRefused [vR 468, vI (-1)] M (fun r M' => ∃ z : Int, r = some (vI z) ∧ Shp M' ∧ ((z = 0 → A M') ∧ (¬ z = 0 → B M'))) :=
  m_isRefused_no hd hS ⟨0, rfl, hS, fun _ => k, fun z => absurd rfl z⟩
theorem m_kept (hd : 9 ≤ d) (hM : CM M W) (hok : OKW W) (hn : 0 < W.I.np) (h : ∀ M', F4 (fun r => r = 488) (fun j => j = 33) M M' → iv M' 486 = iv M 486 → PM M' W.I.np (shK W.K) (shP W.s W.P) → Q none M') : Call d mX11_keep [vR 468] M Q := by
  obtain ⟨n1, n2, n3, n4⟩ := hM.now
  have h0 := hok.h0
  exact m_keep (by omega) hM.shp (n1 hn) n2 hok.wi.1 h0.1 n4 hok.hp (fun M' hf hp => h M' hf (hf.eiv (by omega)) hp)
theorem MLg.hi {f f' : Nat → Int} {s s' : jS} (h : MLg f s) (he : ∀ i, 171 ≤ i → f' i = f i) (h0 : 0 ≤ s 0 9) (h9 : s' 0 9 = s 0 9) (h7 : ∀ i, s' 7 i = s 7 i) : MLg f' s' := h.cg (fun i hi _ => he i hi) h0 h9 (fun i _ => h7 i)
theorem M_hours {n : Int} (hd : 22 ≤ d) (hM : CM M W) (hok : OKW W) (h : ∀ M', FM M M' → CM M' (wHours W n).2 → Q (some (vI (wHours W n).1)) M') : Call d mX11_hours [vR 468, vI n] M Q := by
  obtain ⟨e, rfl⟩ := dd (d := d) (by omega)
  have hS := hM.shp
  have h09 := hok.h0
  have hn8 := hok.wi.1
  unfold wHours at h
  refine vn_hours (by omega) hS ⟨fun c0 => ⟨fun c1 => ?_, fun c1 => ?_⟩, fun c0 => ?_⟩
  · rw [hM.np] at c0
    rw [fIn_n] at c1
    rw [if_neg (by omega), if_neg (by omega)] at h
    have eh : MRf (iv M 486) W.I.np W.s := hM.now.1 (by omega)
    refine Call.mono (d := e) (k := e) ?_ (Nat.le_refl _) (fun _ _ z => z)
    obtain ⟨e', rfl⟩ := dd (d := e) (by omega)
    refine vn_areHours (by omega) hS ⟨_, rfl, hS, ?_⟩
    rw [if_neg (fun z => (fIn_0.mp z) c1), eh.2.2.2.2, w32_i (by omega) (by omega)]
    by_cases c2 : 9999 < W.s 0 9 + n
    · rw [if_pos c2] at h ⊢
      exact vn_hours_39 (by omega) hS (m_refd 4 (by omega) hM (by decide) h)
    · rw [if_neg c2] at h ⊢
      refine vn_hours_39 (by omega) hS (m_nrefd (by omega) hS ?_)
      obtain ⟨n1, n2, n3, n4⟩ := hM.now
      obtain ⟨m, rfl⟩ : ∃ m : Nat, n = (m : Int) := ⟨n.toNat, by omega⟩
      rw [Int.toNat_natCast] at h
      refine up_to (R := fun i => ∀ M1, F4 Bc Bj M M1 → MRf (iv M1 486) W.I.np (itF (hrA W.I) i W.A).1 → MLg (iv M1 486) (itF (hrA W.I) i W.A).1 → PM M1 W.I.np (itF (hrA W.I) i W.A).2.1 (itF (hrA W.I) i W.A).2.2 → Run (e' + 1 + 1) mX11_hours 49 [some (vR 468), some (vI (m : Int)), some (vI (i : Int))] [] M1 Q) m ?_ ?_ M F4.refl (n1 (by omega)) n2 n4
      · intro M2 f2 r2 l2 p2
        refine vn_hours_49 (by omega) (f2.shp hS) ⟨fun _ => ?_, fun c => absurd (Int.le_refl _) c⟩
        rw [r2.2.2.2.2]
        obtain ⟨q1, q2⟩ := hM.setA f2 r2 l2 p2
        exact h M2 q2 q1
      · intro i hi ih M2 f2 r2 l2 p2
        have s2 := f2.shp hS
        have ez : W.A.1 0 9 = W.s 0 9 := rfl
        have o2 : OKA W.I.np (itF (hrA W.I) i W.A) := hrA_ok hok.wi (hok.oka (by omega)) i (by omega)
        have o9 := hrA_9 (I := W.I) (a := W.A) i
        refine vn_hours_49 (by omega) s2 ⟨fun c => absurd c (by omega), fun _ => m_keep (by omega) s2 r2 l2 hn8 (by omega) p2 (fun k hk => (o2.2.2 k hk).1.2.2.2.2.2.1) (fun M3 f3 p3 => ⟨rfl, f3.shp s2, ?_⟩)⟩
        have s3 := f3.shp s2
        have g3 : F4 Bc Bj M M3 := f2.trans (f3.mono (fun r hr => by unfold Bc; omega) (fun j hj => by unfold Bj; omega))
        have A3 : IM M3 W.I := g3.im hM.im (by intro r hr; unfold Bc; omega) (by unfold Bj; omega) (by unfold Bj; omega)
        have k3 : iv M3 486 = iv M2 486 := f3.eiv (by omega)
        refine m_passHour (by omega) s3 A3 hok.wi (by rw [MR_f, k3]; exact r2) o2.1.1 (by omega) (by rw [k3]; exact l2) (fun M4 f4 r4 l4 => ⟨rfl, f4.shp s3, ?_⟩)
        rw [w32s (by omega)]
        exact ih M4 (g3.trans (F4.of (f4.mono (fun r hr => by unfold Bc; omega)) (by unfold Bc; omega))) r4 l4 (p3.cg (by rw [f4.eiv (by omega)]) (f4.eiv (by omega)))
  · rw [hM.np] at c0
    rw [fIn_n] at c1
    rw [if_neg (by omega), if_pos (by omega)] at h
    exact vn_hours_39 (by omega) hS (m_refd 1 (by omega) hM (by decide) h)
  · rw [hM.np] at c0
    rw [if_pos (by omega)] at h
    exact vn_hours_39 (by omega) hS (m_refd 0 (by omega) hM (by decide) h)
theorem M_years {n x : Int} (hd : 22 ≤ d) (hM : CM M W) (hok : OKW W) (h : ∀ M', FM M M' → CM M' (wYears W n x).2 → Q (some (vI (wYears W n x).1)) M') : Call d mX11_years [vR 468, vI n, vL x] M Q := by
  obtain ⟨e, rfl⟩ := dd (d := d) (by omega)
  have hS := hM.shp
  have h09 := hok.h0
  have hn8 := hok.wi.1
  have nope : (W.I.np = 0 ∨ n < 1 ∨ 60 < n ∨ 9999 < W.s 0 9 + n) → Q (some (vI (-1))) M := by
    intro c
    have ew : wYears W n x = (-1, W) := by unfold wYears; rw [if_pos c]
    rw [ew] at h
    exact h M Fr.refl hM
  refine vn_years (by omega) hS ⟨fun c0 => ?_, fun c0 => ?_⟩
  · rw [hM.np] at c0; exact nope (Or.inl (by omega))
  · rw [hM.np] at c0
    have eh : MRf (iv M 486) W.I.np W.s := hM.now.1 (by omega)
    obtain ⟨e', rfl⟩ := dd (d := e) (by omega)
    refine vn_areHours (by omega) hS ⟨_, rfl, hS, ?_⟩
    rw [eh.2.2.2.2]
    by_cases c1 : 1 ≤ n ∧ n ≤ 60
    · rw [if_neg (fun z => (fIn_0.mp z) c1), w32_i (by omega) (by omega)]
      by_cases c2 : 9999 < W.s 0 9 + n
      · rw [if_pos c2]
        exact ⟨fun z => absurd rfl z, fun _ => nope (by omega)⟩
      · rw [if_neg c2]
        refine ⟨fun _ N hN sN => ?_, fun z => absurd (by decide) z⟩
        have ew : wYears W n x = ((itF (yrA W.I W.me) n.toNat (W.A, x)).1.1 0 9, W.setA (itF (yrA W.I W.me) n.toNat (W.A, x)).1) := by unfold wYears; rw [if_neg (by omega)]
        rw [ew] at h
        obtain ⟨n1, n2, n3, n4⟩ := hM.now
        have hn2 := hok.n2 (by omega)
        obtain ⟨m, rfl⟩ : ∃ m : Nat, n = (m : Int) := ⟨n.toNat, by omega⟩
        rw [Int.toNat_natCast] at h
        have fN : F4 Bc Bj M N := by
          rw [hN]
          refine ⟨fr_sl (Or.inr rfl), fun j hj => ⟨rfl, ?_⟩⟩
          show (if 468 = 468 ∧ j = 34 then x else lg M 468 j) = _
          exact if_neg (fun q => hj (Or.inr q.2))
        have iN : iv N = iv M := by rw [hN]; rfl
        have lN : lg N 468 34 = x := by rw [hN]; exact lg_sle
        refine up_to (R := fun i => ∀ M1, F4 Bc Bj M M1 → lg M1 468 34 = (itF (yrA W.I W.me) i (W.A, x)).2 → MRf (iv M1 486) W.I.np (itF (yrA W.I W.me) i (W.A, x)).1.1 → MLg (iv M1 486) (itF (yrA W.I W.me) i (W.A, x)).1.1 → PM M1 W.I.np (itF (yrA W.I W.me) i (W.A, x)).1.2.1 (itF (yrA W.I W.me) i (W.A, x)).1.2.2 → Run (e' + 1 + 1) mX11_years 25 [some (vR 468), some (vI (m : Int)), some (vL x), none, some (vI (i : Int))] [] M1 Q) m ?_ ?_ N fN lN (by rw [iN]; exact n1 (by omega)) (by rw [iN]; exact n2) (n4.cg (by rw [iN]) (by rw [iN]))
        · intro M2 f2 _ r2 l2 p2
          refine vn_years_25 (by omega) (f2.shp hS) ⟨fun _ => ?_, fun c => absurd (Int.le_refl _) c⟩
          rw [r2.2.2.2.2]
          obtain ⟨q1, q2⟩ := hM.setA f2 r2 l2 p2
          exact h M2 q2 q1
        · intro i hi ih M2 f2 d2 r2 l2 p2
          have s2 := f2.shp hS
          have ez : (W.A, x).1.1 0 9 = W.s 0 9 := rfl
          have o2 : OKA W.I.np (itF (yrA W.I W.me) i (W.A, x)).1 := yrA_ok hok.wi hn2 (hok.oka (by omega)) i (by omega)
          have o9 := yrA_9 (I := W.I) (me := W.me) (b := (W.A, x)) i
          refine vn_years_25 (by omega) s2 ⟨fun c => absurd c (by omega), fun _ => m_keep (by omega) s2 r2 l2 hn8 (by omega) p2 (fun k hk => (o2.2.2 k hk).1.2.2.2.2.2.1) (fun M3 f3 p3 => ⟨rfl, f3.shp s2, ?_⟩)⟩
          have s3 := f3.shp s2
          have g3 : F4 Bc Bj M M3 := f2.trans (f3.mono (fun r hr => by unfold Bc; omega) (fun j hj => by unfold Bj; omega))
          have A3 : IM M3 W.I := g3.im hM.im (by intro r hr; unfold Bc; omega) (by unfold Bj; omega) (by unfold Bj; omega)
          have k3 : iv M3 486 = iv M2 486 := f3.eiv (by omega)
          have dk : lg M3 468 34 = (itF (yrA W.I W.me) i (W.A, x)).2 := by rw [(f3.2 34 (by omega)).2]; exact d2
          refine m_drawHour (me := W.me) (by omega) s3 A3 hok.wi hn2 (by rw [k3]; exact r2) o2.1.1 (by rw [(g3.2 31 (by unfold Bj; omega)).1]; exact hM.me) (fun M4 f4 k4 r4 d4 => ⟨rfl, f4.shp s3, ?_⟩)
          rw [dk] at r4 d4
          have s4 := f4.shp s3
          have g4 : F4 Bc Bj M M4 := g3.trans (f4.mono (fun r hr => by unfold Bc; omega) (fun j hj => by unfold Bj; omega))
          have A4 : IM M4 W.I := g4.im hM.im (by intro r hr; unfold Bc; omega) (by unfold Bj; omega) (by unfold Bj; omega)
          have gs4 : GS W.I.np (drw W.I W.me (itF (yrA W.I W.me) i (W.A, x)).1.1 (itF (yrA W.I W.me) i (W.A, x)).2).1 := GS.dr hok.wi hn2 o2.1
          have l4 : MLg (iv M4 486) (drw W.I W.me (itF (yrA W.I W.me) i (W.A, x)).1.1 (itF (yrA W.I W.me) i (W.A, x)).2).1 := l2.hi (fun j hj => by rw [k4 j hj, k3]) (by omega) (drw_o (Or.inl ⟨rfl, by decide⟩)) (fun j => drw_o (Or.inr (by omega)))
          refine m_passHour (by omega) s4 A4 hok.wi (MR_f.mpr r4) gs4.1 (by rw [drw_o (Or.inl ⟨rfl, by decide⟩)]; omega) l4 (fun M5 f5 r5 l5 => ⟨rfl, f5.shp s4, ?_⟩)
          rw [w32s (by omega)]
          refine ih M5 (g4.trans (F4.of (f5.mono (fun r hr => by unfold Bc; omega)) (by unfold Bc; omega))) ?_ r5 l5 ((p3.cg (M' := M4) (by rw [(f4.2 33 (by omega)).1]) (f4.eiv (by omega))).cg (by rw [f5.eiv (by omega)]) (f5.eiv (by omega)))
          rw [f5.elg (by omega), d4]
          rfl
    · rw [if_pos (fIn_0.mpr c1)]
      exact ⟨fun z => absurd rfl z, fun _ => nope (by omega)⟩
theorem M_think {p o k t : Int} (hd : 11 ≤ d) (hM : CM M W) (hok : OKW W) (h : ∀ M', FM M M' → CM M' (wThink W p o k t).2 → Q (some (vI (wThink W p o k t).1)) M') : Call d mX11_think [vR 468, vI p, vI o, vI k, vI t] M Q := by
  obtain ⟨e, rfl⟩ := dd (d := d) (by omega)
  have hS := hM.shp
  have hn8 := hok.wi.1
  have r0 : ∀ l5, ¬ (0 ≤ p ∧ p < W.I.np ∧ 0 ≤ o ∧ o < W.I.np) → Run (e + 1) mX11_think 77 [some (vR 468), some (vI p), some (vI o), some (vI k), some (vI t), l5] [vI (0 : Int), vR 468] M Q := by
    intro l5 c
    have ew : wThink W p o k t = (-1, W.ref 0) := by unfold wThink; rw [if_pos c]
    rw [ew] at h
    exact vn_think_77 (by omega) hS (m_refd 0 (by omega) hM (by decide) h)
  have r1 : ∀ l5, (0 ≤ p ∧ p < W.I.np ∧ 0 ≤ o ∧ o < W.I.np) → (p = o ∨ ¬ (0 ≤ k ∧ k < 3) ∨ t < 1 ∨ 9 < t) → Run (e + 1) mX11_think 77 [some (vR 468), some (vI p), some (vI o), some (vI k), some (vI t), l5] [vI (1 : Int), vR 468] M Q := by
    intro l5 c c2
    have ew : wThink W p o k t = (-1, W.ref 1) := by unfold wThink; rw [if_neg (by omega), if_pos c2]
    rw [ew] at h
    exact vn_think_77 (by omega) hS (m_refd 1 (by omega) hM (by decide) h)
  refine vn_think (by omega) hS ?_
  rw [hM.np, w32np hn8]
  simp only [fIn_0, fIn_n]
  refine ⟨fun c1 => ?_, fun c1 => ⟨fun c2 => ⟨fun c3 => ?_, fun c3 => ⟨fun c4 => ?_, fun c4 => ⟨fun c5 => ?_, fun c5 => ?_⟩⟩⟩, fun c2 => ?_⟩⟩
  · exact r0 _ (by omega)
  · exact r1 _ (by omega) (by omega)
  · exact r1 _ (by omega) (by omega)
  · obtain ⟨q, rfl⟩ : ∃ q : Nat, p = (q : Int) := ⟨p.toNat, by omega⟩
    unfold wThink at h
    rw [if_neg (by omega), if_neg (by omega), Int.toNat_natCast] at h
    have ex : (3 * (q : Int) + 2).toNat = 3 * q + 2 := by omega
    rw [ex, (hM.im.2.1 q (by omega)).2, fG_m (hok.wi.2.2.1 q (by omega)) (by omega)]
    obtain ⟨n1, n2, n3, n4⟩ := hM.now
    have hn : 0 < W.I.np := by omega
    have r2 := n1 hn
    refine ⟨by omega, fun c7 => ?_, fun c7 => ?_⟩
    · rw [if_neg c7] at h
      refine m_emptyIn (by omega) hS (MR_f.mpr r2) (by omega) ⟨_, rfl, hS, ?_⟩
      by_cases c8 : fE (W.s 1) q = -1
      · rw [if_pos c8] at h
        rw [c8]
        exact vn_think_77 (by omega) hS (m_refd 3 (by omega) hM (by decide) h)
      · rw [if_neg c8] at h
        rw [if_pos c8]
        refine vn_think_77 (by omega) hS (m_nrefd (by omega) hS (m_kept (by omega) hM hok hn (fun M2 f2 k2 p2 => ⟨rfl, f2.shp hS, ?_⟩)))
        have s2 := f2.shp hS
        have rr : MR M2 W.I.np W.s := by rw [MR_f, k2]; exact r2
        refine m_emptyIn (by omega) s2 rr (by omega) ⟨_, rfl, s2, ?_⟩
        refine m_putThought (by omega) s2 rr hn8 (by omega) c8 (by omega) (fun M3 f3 r3 => ⟨rfl, f3.shp s2, ?_⟩)
        obtain ⟨q1, q2⟩ := hM.setA (a := kpA W.A (pLay W.s (4 * q + (fE (W.s 1) q).toNat) o k t)) ((f2.mono (fun r hr => by unfold Bc; omega) (fun j hj => by unfold Bj; omega)).trans (F4.of (f3.1.mono (fun r hr => by unfold Bc; omega)) (by unfold Bc; omega))) r3 (n2.hi (fun j hj => by rw [f3.2 j hj, k2]) hok.h0.1 (pLay_o (by omega)) (fun j => pLay_o (by omega))) (p2.cg (by rw [f3.1.eiv (by omega)]) (f3.1.eiv (by omega)))
        exact h M3 q2 q1
    · rw [if_pos (by omega)] at h
      exact vn_think_77 (by omega) hS (m_refd 2 (by omega) hM (by decide) h)
  · exact r1 _ (by omega) (by omega)
  · exact r0 _ (by omega)
theorem M_forget {p i : Int} (hd : 11 ≤ d) (hM : CM M W) (hok : OKW W) (h : ∀ M', FM M M' → CM M' (wForget W p i).2 → Q (some (vI (wForget W p i).1)) M') : Call d mX11_forget [vR 468, vI p, vI i] M Q := by
  obtain ⟨e, rfl⟩ := dd (d := d) (by omega)
  have hS := hM.shp
  have hn8 := hok.wi.1
  unfold wForget at h
  refine vn_forget (by omega) hS ?_
  rw [hM.np, w32np hn8]
  simp only [fIn_n]
  refine ⟨fun c1 => ⟨fun c2 => ⟨by omega, fun v4 hv4 => ?_⟩, fun c2 => ?_⟩, fun c1 => ?_⟩
  · obtain ⟨q, rfl⟩ : ∃ q : Nat, p = (q : Int) := ⟨p.toNat, by omega⟩
    obtain ⟨r, rfl⟩ : ∃ r : Nat, i = (r : Int) := ⟨i.toNat, by omega⟩
    rw [if_neg (by omega), if_neg (by omega), Int.toNat_natCast, Int.toNat_natCast] at h
    obtain ⟨n1, n2, n3, n4⟩ := hM.now
    have hn : 0 < W.I.np := by omega
    have r2 := n1 hn
    have x0 : (20 * (q : Int) + 5 * (r : Int) + 0).toNat = 5 * (4 * q + r) := by omega
    have x1 : (20 * (q : Int) + 5 * (r : Int) + 1).toNat = 5 * (4 * q + r) + 1 := by omega
    rw [x0] at hv4
    obtain ⟨b1, b2⟩ := r2.1 (4 * q + r) (by omega)
    by_cases c3 : W.s 1 (4 * q + r) = -1
    · rw [if_pos c3] at h
      rw [b1 c3, if_neg (fun z => z rfl)] at hv4
      rw [hv4]
      exact vn_forget_41 (by omega) hS (m_refd 2 (by omega) hM (by decide) h)
    · rw [if_neg c3] at h
      rw [(b2 c3).1, if_pos (by decide)] at hv4
      rw [hv4]
      refine vn_forget_41 (by omega) hS (m_nrefd (by omega) hS (m_kept (by omega) hM hok hn (fun M2 f2 k2 p2 => ⟨rfl, f2.shp hS, by omega, fun N hN sN => ?_⟩)))
      rw [x0] at hN
      rw [x1]
      have hv : ∀ x, iv N 486 x = if x = 5 * (4 * q + r) then 0 else iv M 486 x := by
        intro x; rw [hN]; simp only [iv_si, true_and]; rw [k2]
      have f3 : FP M2 N := by rw [hN]; exact FP.refl.si (by omega)
      rw [hv, if_neg (by omega), (b2 c3).2.1]
      have e1 : pSet W.s 1 (4 * q + r) (-1) 1 (4 * q + r) = -1 := pSet_e
      obtain ⟨q1, q2⟩ := hM.setA (a := kpA W.A (pSet W.s 1 (4 * q + r) (-1))) ((f2.mono (fun r hr => by unfold Bc; omega) (fun j hj => by unfold Bj; omega)).trans (F4.of (f3.1.mono (fun r hr => by unfold Bc; omega)) (by unfold Bc; omega))) (r2.upd (j := 4 * q + r) hn8 (by omega) (fun x hx hx2 => by rw [hv, if_neg (by omega)]) (fun g x hg => pSet_o (by omega)) ⟨fun _ => by rw [hv, if_pos rfl], fun z => absurd e1 z⟩) (n2.hi (fun j hj => by rw [hv, if_neg (by omega)]) hok.h0.1 (show pSet W.s 1 (4 * q + r) (-1) 0 9 = W.s 0 9 from pSet_o (by omega)) (fun j => show pSet W.s 1 (4 * q + r) (-1) 7 j = W.s 7 j from pSet_o (by omega))) (p2.cg (by rw [f3.1.eiv (by omega)]) (f3.1.eiv (by omega)))
      exact h N q2 q1
  · rw [if_neg (by omega), if_pos (by omega)] at h
    exact vn_forget_41 (by omega) hS (m_refd 1 (by omega) hM (by decide) h)
  · rw [if_pos (by omega)] at h
    exact vn_forget_41 (by omega) hS (m_refd 0 (by omega) hM (by decide) h)
theorem M_hem {p n : Int} (hd : 11 ≤ d) (hM : CM M W) (hok : OKW W) (h : ∀ M', FM M M' → CM M' (wHem W p n).2 → Q (some (vI (wHem W p n).1)) M') : Call d mX11_hem [vR 468, vI p, vI n] M Q := by
  obtain ⟨e, rfl⟩ := dd (d := d) (by omega)
  have hS := hM.shp
  have hn8 := hok.wi.1
  unfold wHem at h
  refine vn_hem (by omega) hS ?_
  rw [hM.np, w32np hn8]
  simp only [fIn_n]
  refine ⟨fun c1 => ⟨fun c2 => ?_, fun c2 => ?_⟩, fun c1 => ?_⟩
  · obtain ⟨q, rfl⟩ : ∃ q : Nat, p = (q : Int) := ⟨p.toNat, by omega⟩
    rw [if_neg (by omega), if_neg (by omega), Int.toNat_natCast] at h
    obtain ⟨n1, n2, n3, n4⟩ := hM.now
    have hn : 0 < W.I.np := by omega
    have r2 := n1 hn
    have g := (hok.gs hn).1
    have g6 := g.2.2.1 q (by omega)
    have g8 := g.2.2.2.2.1
    have ew : w32 (160 + (q : Int)) = 160 + (q : Int) := w32_i (by omega) (by omega)
    have et : (160 + (q : Int)).toNat = 160 + q := by omega
    rw [r2.2.2.2.1, ew, et, r2.2.1 q (by omega), w32_i (z := W.s 6 q + n) (by omega) (by omega)]
    refine ⟨fun c3 => ?_, fun c3 => ⟨by omega, fun v5 hv5 => ?_⟩⟩
    · rw [if_pos (by omega)] at h
      exact vn_hem_61 (by omega) hS (m_refd 3 (by omega) hM (by decide) h)
    · by_cases c4 : W.s 6 q + n ≤ 99
      · rw [if_neg (by omega)] at h
        rw [if_pos c4] at hv5
        rw [hv5]
        refine vn_hem_61 (by omega) hS (m_nrefd (by omega) hS (m_kept (by omega) hM hok hn (fun M2 f2 k2 p2 => ⟨rfl, f2.shp hS, fun N hN sN => ⟨by omega, fun N2 hN2 sN2 => ?_⟩⟩)))
        rw [ew, et] at *
        rw [k2, r2.2.2.2.1, w32_i (by omega) (by omega)] at hN
        have e6 : iv N 486 (160 + q) = W.s 6 q := by rw [hN, iv_si, if_neg (by omega), k2]; exact r2.2.1 q (by omega)
        rw [e6, w32_i (by omega) (by omega)] at hN2
        have hv : ∀ x, iv N2 486 x = if x = 160 + q then W.s 6 q + n else if x = 169 then W.s 0 8 - n else iv M 486 x := by
          intro x; rw [hN2, hN]; simp only [iv_si, true_and]; rw [k2]
        have f3 : FP M2 N2 := by rw [hN2, hN]; exact (FP.refl.si (by omega)).si (by omega)
        rw [hv, if_pos rfl]
        obtain ⟨a1, a2, a3, a4, a5⟩ := r2
        obtain ⟨q1, q2⟩ := hM.setA (a := kpA W.A (pSet (pSet W.s 0 8 (W.s 0 8 - n)) 6 q (W.s 6 q + n))) ((f2.mono (fun r hr => by unfold Bc; omega) (fun j hj => by unfold Bj; omega)).trans (F4.of (f3.1.mono (fun r hr => by unfold Bc; omega)) (by unfold Bc; omega))) (by
          have oo : ∀ f x, (f ≠ 6 ∨ x ≠ q) → (f ≠ 0 ∨ x ≠ 8) → pSet (pSet W.s 0 8 (W.s 0 8 - n)) 6 q (W.s 6 q + n) f x = W.s f x := fun f x h1 h2 => by rw [pSet_o h1, pSet_o h2]
          refine ⟨fun j hj => ?_, fun p hp => ?_, ?_, ?_, ?_⟩
          · show (pSet (pSet W.s 0 8 (W.s 0 8 - n)) 6 q (W.s 6 q + n) 1 j = -1 → _) ∧ (pSet (pSet W.s 0 8 (W.s 0 8 - n)) 6 q (W.s 6 q + n) 1 j ≠ -1 → iv N2 486 (5 * j) = 1 ∧ iv N2 486 (5 * j + 1) = pSet (pSet W.s 0 8 (W.s 0 8 - n)) 6 q (W.s 6 q + n) 1 j ∧ iv N2 486 (5 * j + 2) = pSet (pSet W.s 0 8 (W.s 0 8 - n)) 6 q (W.s 6 q + n) 2 j ∧ iv N2 486 (5 * j + 3) = pSet (pSet W.s 0 8 (W.s 0 8 - n)) 6 q (W.s 6 q + n) 3 j ∧ iv N2 486 (5 * j + 4) = pSet (pSet W.s 0 8 (W.s 0 8 - n)) 6 q (W.s 6 q + n) 4 j)
            rw [oo 1 j (by omega) (by omega), oo 2 j (by omega) (by omega), oo 3 j (by omega) (by omega), oo 4 j (by omega) (by omega)]
            have hz : ∀ x, x < 160 → iv N2 486 x = iv M 486 x := fun x hx => by rw [hv, if_neg (by omega), if_neg (by omega)]
            rw [hz _ (by omega), hz _ (by omega), hz _ (by omega), hz _ (by omega), hz _ (by omega)]
            exact a1 j hj
          · show _ = pSet (pSet W.s 0 8 (W.s 0 8 - n)) 6 q (W.s 6 q + n) 6 p
            by_cases c : p = q
            · rw [c, pSet_e, hv, if_pos rfl]
            · rw [oo 6 p (by omega) (by omega), hv, if_neg (by omega), if_neg (by omega)]; exact a2 p hp
          · show _ = pSet (pSet W.s 0 8 (W.s 0 8 - n)) 6 q (W.s 6 q + n) 0 7
            rw [oo 0 7 (by omega) (by omega), hv, if_neg (by omega), if_neg (by omega)]; exact a3
          · show _ = pSet (pSet W.s 0 8 (W.s 0 8 - n)) 6 q (W.s 6 q + n) 0 8
            rw [pSet_o (by omega), pSet_e, hv, if_neg (by omega), if_pos rfl]
          · show _ = pSet (pSet W.s 0 8 (W.s 0 8 - n)) 6 q (W.s 6 q + n) 0 9
            rw [oo 0 9 (by omega) (by omega), hv, if_neg (by omega), if_neg (by omega)]; exact a5) (n2.hi (fun j hj => by rw [hv, if_neg (by omega), if_neg (by omega)]) hok.h0.1 (by show pSet (pSet W.s 0 8 (W.s 0 8 - n)) 6 q (W.s 6 q + n) 0 9 = _; rw [pSet_o (by omega), pSet_o (by omega)]) (fun j => by show pSet (pSet W.s 0 8 (W.s 0 8 - n)) 6 q (W.s 6 q + n) 7 j = _; rw [pSet_o (by omega), pSet_o (by omega)])) (p2.cg (by rw [f3.1.eiv (by omega)]) (f3.1.eiv (by omega)))
        exact h N2 q2 q1
      · rw [if_pos (by omega)] at h
        rw [if_neg c4] at hv5
        rw [hv5]
        exact vn_hem_61 (by omega) hS (m_refd 3 (by omega) hM (by decide) h)
  · rw [if_neg (by omega), if_pos (by omega)] at h
    exact vn_hem_61 (by omega) hS (m_refd 1 (by omega) hM (by decide) h)
  · rw [if_pos (by omega)] at h
    exact vn_hem_61 (by omega) hS (m_refd 0 (by omega) hM (by decide) h)
/-- wind and coins: one number of the state is other -/
theorem MRf.set0 {f f' : Nat → Int} {n k : Nat} {s : jS} {v : Int} (h : MRf f n s) (hn : n ≤ 8) (hk : k = 7 ∨ k = 8) (hv : ∀ x, f' x = if x = 161 + k then v else f x) : MRf f' n (pSet s 0 k v) := by
  obtain ⟨a1, a2, a3, a4, a5⟩ := h
  refine ⟨fun j hj => ?_, fun p hp => ?_, ?_, ?_, ?_⟩
  · rw [pSet_o (f := 1) (by omega), pSet_o (f := 2) (by omega), pSet_o (f := 3) (by omega), pSet_o (f := 4) (by omega)]
    have hz : ∀ x, x < 160 → f' x = f x := fun x hx => by rw [hv, if_neg (by omega)]
    rw [hz _ (by omega), hz _ (by omega), hz _ (by omega), hz _ (by omega), hz _ (by omega)]
    exact a1 j hj
  · rw [pSet_o (by omega), hv, if_neg (by omega)]; exact a2 p hp
  · rcases hk with rfl | rfl
    · rw [pSet_e, hv, if_pos rfl]
    · rw [pSet_o (by omega), hv, if_neg (by omega)]; exact a3
  · rcases hk with rfl | rfl
    · rw [pSet_o (by omega), hv, if_neg (by omega)]; exact a4
    · rw [pSet_e, hv, if_pos rfl]
  · rw [pSet_o (by omega), hv, if_neg (by omega)]; exact a5
theorem M_wind {v : Int} (hd : 11 ≤ d) (hM : CM M W) (hok : OKW W) (h : ∀ M', FM M M' → CM M' (wWind W v).2 → Q (some (vI (wWind W v).1)) M') : Call d mX11_wind [vR 468, vI v] M Q := by
  obtain ⟨e, rfl⟩ := dd (d := d) (by omega)
  have hS := hM.shp
  have hn8 := hok.wi.1
  unfold wWind at h
  refine vn_wind (by omega) hS (fun v1 hv1 => ?_)
  rw [hM.np] at hv1
  simp only [fIn_n] at hv1
  by_cases c0 : W.I.np = 0
  · rw [if_pos c0] at h
    rw [if_neg (by omega)] at hv1
    rw [hv1]
    exact m_refd 0 (by omega) hM (by decide) h
  · rw [if_neg c0] at h
    rw [if_pos (by omega)] at hv1
    by_cases c1 : 0 ≤ v ∧ v ≤ 9
    · rw [if_neg (by omega)] at h
      rw [if_pos c1] at hv1
      obtain ⟨n1, n2, n3, n4⟩ := hM.now
      have hn : 0 < W.I.np := by omega
      have r2 := n1 hn
      rw [r2.2.2.1] at hv1
      by_cases c2 : v = W.s 0 7
      · rw [if_pos c2] at h
        rw [if_neg (fun z => z c2)] at hv1
        rw [hv1]
        exact m_refd 2 (by omega) hM (by decide) h
      · rw [if_neg c2] at h
        rw [if_pos c2] at hv1
        rw [hv1]
        refine m_nrefd (by omega) hS (m_kept (by omega) hM hok hn (fun M2 f2 k2 p2 => ⟨rfl, f2.shp hS, fun N hN sN => ?_⟩))
        have hv : ∀ x, iv N 486 x = if x = 161 + 7 then v else iv M 486 x := by
          intro x; rw [hN]; simp only [iv_si, true_and]; rw [k2]
        have f3 : FP M2 N := by rw [hN]; exact FP.refl.si (by omega)
        rw [k2, r2.2.2.1]
        obtain ⟨q1, q2⟩ := hM.setA (a := kpA W.A (pSet W.s 0 7 v)) ((f2.mono (fun r hr => by unfold Bc; omega) (fun j hj => by unfold Bj; omega)).trans (F4.of (f3.1.mono (fun r hr => by unfold Bc; omega)) (by unfold Bc; omega))) (r2.set0 hn8 (Or.inl rfl) hv) (n2.hi (fun j hj => by rw [hv, if_neg (by omega)]) hok.h0.1 (show pSet W.s 0 7 v 0 9 = W.s 0 9 from pSet_o (by omega)) (fun j => show pSet W.s 0 7 v 7 j = W.s 7 j from pSet_o (by omega))) (p2.cg (by rw [f3.1.eiv (by omega)]) (f3.1.eiv (by omega)))
        exact h N q2 q1
    · rw [if_pos (by omega)] at h
      rw [if_neg c1] at hv1
      rw [hv1]
      exact m_refd 1 (by omega) hM (by decide) h
theorem M_give {n : Int} (hd : 11 ≤ d) (hM : CM M W) (hok : OKW W) (h : ∀ M', FM M M' → CM M' (wGive W n).2 → Q (some (vI (wGive W n).1)) M') : Call d mX11_give [vR 468, vI n] M Q := by
  obtain ⟨e, rfl⟩ := dd (d := d) (by omega)
  have hS := hM.shp
  have hn8 := hok.wi.1
  unfold wGive at h
  refine vn_give (by omega) hS (fun v1 hv1 => ?_)
  rw [hM.np] at hv1
  simp only [fIn_n] at hv1
  by_cases c0 : W.I.np = 0
  · rw [if_pos c0] at h
    rw [if_neg (by omega)] at hv1
    rw [hv1]
    exact m_refd 0 (by omega) hM (by decide) h
  · rw [if_neg c0] at h
    rw [if_pos (by omega)] at hv1
    by_cases c1 : 1 ≤ n ∧ n ≤ 50
    · rw [if_neg (by omega)] at h
      rw [if_pos c1] at hv1
      obtain ⟨n1, n2, n3, n4⟩ := hM.now
      have hn : 0 < W.I.np := by omega
      have r2 := n1 hn
      have g8 := (hok.gs hn).1.2.2.2.2.1
      rw [r2.2.2.2.1, w32_i (by omega) (by omega)] at hv1
      by_cases c2 : W.s 0 8 + n ≤ 999
      · rw [if_neg (by omega)] at h
        rw [if_pos c2] at hv1
        rw [hv1]
        refine m_nrefd (by omega) hS (m_kept (by omega) hM hok hn (fun M2 f2 k2 p2 => ⟨rfl, f2.shp hS, fun N hN sN => ?_⟩))
        rw [k2, r2.2.2.2.1, w32_i (by omega) (by omega)] at hN
        have hv : ∀ x, iv N 486 x = if x = 161 + 8 then W.s 0 8 + n else iv M 486 x := by
          intro x; rw [hN]; simp only [iv_si, true_and]; rw [k2]
        have f3 : FP M2 N := by rw [hN]; exact FP.refl.si (by omega)
        rw [hv, if_pos rfl]
        obtain ⟨q1, q2⟩ := hM.setA (a := kpA W.A (pSet W.s 0 8 (W.s 0 8 + n))) ((f2.mono (fun r hr => by unfold Bc; omega) (fun j hj => by unfold Bj; omega)).trans (F4.of (f3.1.mono (fun r hr => by unfold Bc; omega)) (by unfold Bc; omega))) (r2.set0 hn8 (Or.inr rfl) hv) (n2.hi (fun j hj => by rw [hv, if_neg (by omega)]) hok.h0.1 (show pSet W.s 0 8 (W.s 0 8 + n) 0 9 = W.s 0 9 from pSet_o (by omega)) (fun j => show pSet W.s 0 8 (W.s 0 8 + n) 7 j = W.s 7 j from pSet_o (by omega))) (p2.cg (by rw [f3.1.eiv (by omega)]) (f3.1.eiv (by omega)))
        exact h N q2 q1
      · rw [if_pos (by omega)] at h
        rw [if_neg c2] at hv1
        rw [hv1]
        exact m_refd 3 (by omega) hM (by decide) h
    · rw [if_pos (by omega)] at h
      rw [if_neg c1] at hv1
      rw [hv1]
      exact m_refd 1 (by omega) hM (by decide) h
theorem M_undo (hd : 11 ≤ d) (hM : CM M W) (hok : OKW W) (h : ∀ M', FM M M' → CM M' (wUndo W).2 → Q (some (vI (wUndo W).1)) M') : Call d mX11_undo [vR 468] M Q := by
  obtain ⟨e, rfl⟩ := dd (d := d) (by omega)
  have hS := hM.shp
  have hn8 := hok.wi.1
  obtain ⟨n1, n2, n3, p1, p2, p3⟩ := hM.now
  unfold wUndo at h
  refine vn_undo (by omega) hS ⟨fun c N hN sN => ?_, fun c => ?_⟩
  · rw [p1] at c
    rw [if_neg (by omega)] at h
    rw [p1, w32_i (by omega) (by omega)] at hN
    have fN : F4 Bc Bj M N := by rw [hN]; exact F4.refl.pj (Or.inl rfl)
    have e33 : iv N 468 33 = ((W.K - 1 : Nat) : Int) := by rw [hN, iv_si, if_pos ⟨rfl, rfl⟩]; omega
    obtain ⟨q3, q4⟩ := p3 0 (by omega)
    have e6 : iv N 486 = iv M 486 := by funext x; rw [hN, iv_si, if_neg (by omega)]
    have e8 : iv N 488 = iv M 488 := by funext x; rw [hN, iv_si, if_neg (by omega)]
    refine up_to (R := fun i => ∀ M1, F4 Bc Bj M M1 → iv M1 468 33 = ((W.K - 1 : Nat) : Int) → iv M1 488 = iv M 488 → (∀ x, iv M1 486 x = if x < i then iv M 488 (352 * (W.K - 1) + x) else iv M 486 x) → Run (e + 1) mX11_undo 21 [some (vR 468), some (vI (i : Int))] [] M1 Q) 352 ?_ ?_ N fN e33 e8 (fun x => by rw [e6, if_neg (by omega)])
    · intro M1 f1 k1 k8 hx
      refine vn_undo_21 (by omega) (f1.shp hS) ⟨fun _ => ?_, fun z => absurd (by decide) z⟩
      rw [k1]
      have hg := hok.2.2.2.2.1.2 0 (by omega)
      obtain ⟨q1, q2⟩ := hM.setA (a := (W.P 0, W.K - 1, fun k => W.P (k + 1))) f1 (q3.cg hn8 (fun x hx2 => by rw [hx, if_pos (by omega)]; congr 1)) (q4.cg (fun x _ hx2 => by rw [hx, if_pos hx2]; congr 1) (hok.hp 0 (by omega)) rfl (fun _ _ => rfl)) ⟨k1, by show W.K - 1 ≤ 40; omega, fun k hk => by
        have hk : k < W.K - 1 := hk
        obtain ⟨z1, z2⟩ := p3 (k + 1) (by omega)
        rw [k8]
        show MRf (fun i => iv M 488 (352 * (W.K - 1 - 1 - k) + i)) W.I.np (W.P (k + 1)) ∧ MLg (fun i => iv M 488 (352 * (W.K - 1 - 1 - k) + i)) (W.P (k + 1))
        rw [show W.K - 1 - 1 - k = W.K - 1 - (k + 1) by omega]
        exact ⟨z1, z2⟩⟩
      have := h M1 q2 q1
      rw [show ((W.K - 1 : Nat) : Int) = (W.K : Int) - 1 by omega]
      exact this
    · intro i hi ih M1 f1 k1 k8 hx
      refine vn_undo_21 (by omega) (f1.shp hS) ⟨fun z => absurd z (by omega), fun _ => ?_⟩
      rw [k1, w32_i (z := 352 * ((W.K - 1 : Nat) : Int)) (by omega) (by omega), w32_i (z := 352 * ((W.K - 1 : Nat) : Int) + (i : Int)) (by omega) (by omega), w32s (by omega), show (352 * ((W.K - 1 : Nat) : Int) + (i : Int)).toNat = 352 * (W.K - 1) + i by omega, Int.toNat_natCast, k8]
      refine ⟨by omega, by omega, fun N2 hN2 sN2 => ih N2 (by rw [hN2]; exact f1.ps (by unfold Bc; omega) (by omega)) (by rw [hN2, iv_si, if_neg (by omega)]; exact k1) (by funext x; rw [hN2, iv_si, if_neg (by omega), k8]) (fun x => ?_)⟩
      rw [hN2]
      simp only [iv_si, true_and]
      by_cases c2 : x = i
      · rw [if_pos c2, if_pos (by omega), c2]
      · rw [if_neg c2, hx]
        by_cases c3 : x < i
        · rw [if_pos c3, if_pos (by omega)]
        · rw [if_neg c3, if_neg (by omega)]
  · rw [p1] at c
    rw [if_pos (by omega)] at h
    exact h M Fr.refl hM
theorem M_back (hd : 11 ≤ d) (hM : CM M W) (hok : OKW W) (h : ∀ M', FM M M' → CM M' (wBack W).2 → Q (some (vI (wBack W).1)) M') : Call d mX11_back [vR 468] M Q := by
  obtain ⟨e, rfl⟩ := dd (d := d) (by omega)
  have hS := hM.shp
  have hn8 := hok.wi.1
  obtain ⟨p1, p2⟩ := hM.2.2.2.1
  unfold wBack at h
  cases hp : W.pc with
  | none =>
    rw [hp] at h p1
    refine vn_back (by omega) hS ⟨fun c => absurd (show iv M 468 46 = 0 from p1) c, fun _ => h M Fr.refl hM⟩
  | some u =>
  rw [hp] at h p1
  obtain ⟨q3, q4⟩ := p2 u hp
  have g := hok.2.2.2.2.2.1 u hp
  refine vn_back (by omega) hS ⟨fun _ => ?_, fun c => absurd (show iv M 468 46 = 1 from p1) (by omega)⟩
  refine up_to (R := fun i => ∀ M1, F4 Bc Bj M M1 → iv M1 498 = iv M 498 → (∀ x, iv M1 486 x = if x < i then iv M 498 x else iv M 486 x) → Run (e + 1) mX11_back 11 [some (vR 468), some (vI (i : Int))] [] M1 Q) 352 ?_ ?_ M F4.refl rfl (fun x => by rw [if_neg (by omega)])
  · intro M1 f1 k8 hx
    refine vn_back_11 (by omega) (f1.shp hS) ⟨fun _ N hN sN => ?_, fun z => absurd (by decide) z⟩
    have e6 : iv N 486 = iv M1 486 := by funext x; rw [hN, iv_si, if_neg (by omega)]
    have r3 : MRf (iv N 486) W.I.np u := q3.cg hn8 (fun x hx2 => by rw [e6, hx, if_pos (by omega)])
    rw [r3.2.2.2.2]
    obtain ⟨q1, q2⟩ := hM.setA (M' := N) (a := (u, 0, W.P)) (by rw [hN]; exact f1.pj (Or.inl rfl)) r3 (q4.cg (fun x _ hx2 => by rw [e6, hx, if_pos hx2]) g.1.2.2.2.2.2.1 rfl (fun _ _ => rfl)) ⟨by rw [hN, iv_si, if_pos ⟨rfl, rfl⟩]; rfl, by show 0 ≤ 40; omega, fun k hk => absurd hk (Nat.not_lt_zero k)⟩
    exact h N q2 q1
  · intro i hi ih M1 f1 k8 hx
    refine vn_back_11 (by omega) (f1.shp hS) ⟨fun z => absurd z (by omega), fun _ => ?_⟩
    rw [w32s (by omega), Int.toNat_natCast, k8]
    refine ⟨by omega, fun N2 hN2 sN2 => ih N2 (by rw [hN2]; exact f1.ps (by unfold Bc; omega) (by omega)) (by funext x; rw [hN2, iv_si, if_neg (by omega), k8]) (fun x => ?_)⟩
    rw [hN2]
    simp only [iv_si, true_and]
    by_cases c2 : x = i
    · rw [if_pos c2, if_pos (by omega), c2]
    · rw [if_neg c2, hx]
      by_cases c3 : x < i
      · rw [if_pos c3, if_pos (by omega)]
      · rw [if_neg c3, if_neg (by omega)]
theorem M_image (hd : 11 ≤ d) (hM : CM M W) (hok : OKW W) (h : ∀ M', FM M M' → CM M' (wImage W).2 → Q (some (vI (wImage W).1)) M') : Call d mX11_image [vR 468] M Q := by
  obtain ⟨e, rfl⟩ := dd (d := d) (by omega)
  have hS := hM.shp
  have hn8 := hok.wi.1
  unfold wImage at h
  refine vn_image (by omega) hS ⟨fun c => ?_, fun c => ?_⟩
  · rw [hM.np] at c
    rw [if_neg (by omega)] at h
    obtain ⟨n1, n2, n3, n4⟩ := hM.now
    have r2 := n1 (by omega)
    refine up_to (R := fun i => ∀ M1, F4 (fun r => r = 498) (fun j => j = 46) M M1 → (∀ x, x < i → iv M1 498 x = iv M 486 x) → Run (e + 1) mX11_image 11 [some (vR 468), some (vI (i : Int))] [] M1 Q) 352 ?_ ?_ M F4.refl (fun x hx => by omega)
    · intro M1 f1 hx
      refine vn_image_11 (by omega) (f1.shp hS) ⟨fun _ N hN sN => ?_, fun z => absurd (by decide) z⟩
      have f2 : F4 (fun r => r = 498) (fun j => j = 46) M N := by rw [hN]; exact f1.pj rfl
      have e6 : iv N 486 = iv M 486 := f2.eiv (by omega)
      have e8 : iv N 498 = iv M1 498 := by funext x; rw [hN, iv_si, if_neg (by omega)]
      rw [e6, n3]
      refine h N (f2.1.mono (fun r hr => by omega)) ?_
      obtain ⟨a0, a1, a2, a3, a4, a5, a6, a7, a8, a9⟩ := hM
      have q4 : ∀ j, j ≠ 46 → iv N 468 j = iv M 468 j := fun j hj => (f2.2 j hj).1
      have qe : ∀ r, r ≠ 498 ∧ r ≠ 468 → iv N r = iv M r := fun r hr => f2.eiv hr
      refine ⟨sN, f2.im a1 (by intro r hr; omega) (by omega) (by omega), ?_, ?_, ?_, ?_, ?_, ?_, ?_, ?_⟩
      · unfold NowM PM at a2 ⊢
        rw [q4 33 (by omega), qe 486 (by omega), qe 488 (by omega)]; exact a2
      · refine ⟨by rw [hN, iv_si, if_pos ⟨rfl, rfl⟩]; rfl, fun u hu => ?_⟩
        have : some W.s = some u := hu
        cases this
        rw [e8]
        exact ⟨r2.cg hn8 (fun x hx2 => hx x (by omega)), n2.cg (fun x _ hx2 => hx x hx2) hok.h0.1 rfl (fun _ _ => rfl)⟩
      · unfold TolM TM at a4 ⊢
        rw [q4 26 (by omega), qe 484 (by omega), qe 483 (by omega), qe 482 (by omega)]; exact a4
      · unfold RidM at a5 ⊢
        rw [q4 42 (by omega), qe 492 (by omega), qe 493 (by omega), qe 494 (by omega), qe 495 (by omega)]; exact a5
      · unfold TapM at a6 ⊢
        rw [q4 2 (by omega), qe 469 (by omega)]; exact a6
      · unfold LawM MLawW mlF mSg mVl mRow at a7 ⊢
        rw [q4 13 (by omega), q4 30 (by omega), qe 470 (by omega), qe 471 (by omega), qe 473 (by omega), qe 474 (by omega), qe 475 (by omega), qe 476 (by omega)]; exact a7
      · unfold RefM at a8 ⊢
        rw [qe 487 (by omega)]; exact a8
      · rw [q4 31 (by omega)]; exact a9
    · intro i hi ih M1 f1 hx
      refine vn_image_11 (by omega) (f1.shp hS) ⟨fun z => absurd z (by omega), fun _ => ?_⟩
      rw [w32s (by omega), Int.toNat_natCast, f1.eiv (r := 486) (by omega)]
      refine ⟨by omega, fun N2 hN2 sN2 => ih N2 (by rw [hN2]; exact f1.ps rfl (by omega)) (fun x hx2 => ?_)⟩
      rw [hN2]
      simp only [iv_si, true_and]
      by_cases c2 : x = i
      · rw [if_pos c2, c2]
      · rw [if_neg c2]; exact hx x (by omega)
  · rw [hM.np] at c
    rw [if_pos (by omega)] at h
    exact h M Fr.refl hM
end MActs
