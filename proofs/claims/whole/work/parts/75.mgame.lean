/-! games of two: of the model -/
section GameM
variable {d : Nat} {M : jM} {Q : Option jV → jM → Prop} {W : kW} {I : jI} {s : jS}
theorem m_choose {p o : Nat} {x : Int} (hd : 9 ≤ d) (hS : Shp M) (hA : IM M I) (hI : WI I) (hs : MR M I.np s) (hp : p < I.np) (h : ∀ M', FP M M' → MR M' I.np (chF I s p o x) → Q none M') : Call d mX11_choose [vR 468, vI (p : Int), vI (o : Int), vI x] M Q := by
  obtain ⟨e, rfl⟩ := dd (d := d) (by omega)
  have hn8 := hI.1
  have out : ∀ M1, x ≠ 2 → Shp M1 → Q none M1 → Run (e + 1) mX11_choose 35 [some (vR 468), some (vI (p : Int)), some (vI (o : Int)), some (vI x), some (vI (0 : Int))] [] M1 Q := fun M1 hx s1 q => vn_choose_35 (by omega) s1 ⟨fun c => absurd c (by decide), fun _ => ⟨fun _ => q, fun c => absurd hx c⟩⟩
  have two : x = 2 → Run (e + 1) mX11_choose 35 [some (vR 468), some (vI (p : Int)), some (vI (o : Int)), some (vI x), some (vI (0 : Int))] [] M Q := by
    intro hx
    have ec : chF I s p o x = pGive s p (o : Nat) := by unfold chF; rw [if_neg (by omega), if_pos hx]
    rw [ec] at h
    refine up_to (R := fun i => ∀ M1 u, FP M M1 → (∀ f j, u f j = if f = 1 ∧ 4 * p ≤ j ∧ j < 4 * p + i ∧ s 1 j = (o : Int) then -1 else s f j) → MRf (iv M1 486) I.np u → Run (e + 1) mX11_choose 35 [some (vR 468), some (vI (p : Int)), some (vI (o : Int)), some (vI x), some (vI (i : Int))] [] M1 Q) 4 ?_ ?_ M s FP.refl (fun f j => by rw [if_neg (by omega)]) (MR_f.mp hs)
    · intro M1 u f1 hu r1
      have eu : u = pGive s p (o : Nat) := funext fun f => funext fun j => hu f j
      rw [eu] at r1
      exact vn_choose_35 (by omega) (f1.shp hS) ⟨fun _ => h M1 f1 (MR_f.mpr r1), fun c => absurd (by decide) c⟩
    · intro i hi ih M1 u f1 hu r1
      have x0 : (20 * (p : Int) + 5 * (i : Int)).toNat = 5 * (4 * p + i) := by omega
      have x1 : (20 * (p : Int) + 5 * (i : Int) + 1).toNat = 5 * (4 * p + i) + 1 := by omega
      have x2 : (20 * (p : Int) + 5 * (i : Int) + 0).toNat = 5 * (4 * p + i) := by omega
      obtain ⟨y1, y2⟩ := r1.1 (4 * p + i) (by omega)
      have eu : u 1 (4 * p + i) = s 1 (4 * p + i) := by rw [hu, if_neg (by omega)]
      refine vn_choose_35 (by omega) (f1.shp hS) ?_
      rw [x0, x1, x2, w32s (i := i) (by omega)]
      refine ⟨fun c => absurd c (by omega), fun _ => ⟨fun c => absurd hx c, fun _ => ⟨⟨⟨by omega, by omega⟩, by omega, by omega⟩, fun c => ?_, fun c N hN sN => ?_⟩⟩⟩
      · rw [i01] at c
        have ne : s 1 (4 * p + i) ≠ (o : Int) := by
          intro z
          have z2 : u 1 (4 * p + i) ≠ -1 := by omega
          exact c ⟨(y2 z2).1, by rw [(y2 z2).2.1, eu]; exact z⟩
        refine ih M1 u f1 (fun f j => ?_) r1
        rw [hu]
        by_cases cj : j = 4 * p + i
        · subst cj; rw [if_neg (by omega), if_neg (by omega)]
        · by_cases c3 : f = 1 ∧ 4 * p ≤ j ∧ j < 4 * p + i ∧ s 1 j = (o : Int)
          · rw [if_pos c3, if_pos ⟨c3.1, c3.2.1, by omega, c3.2.2.2⟩]
          · rw [if_neg c3, if_neg (fun z => c3 ⟨z.1, z.2.1, by omega, z.2.2.2⟩)]
      · rw [i01, Classical.not_not] at c
        have z2 : u 1 (4 * p + i) ≠ -1 := fun z => by rw [y1 z] at c; omega
        have so : s 1 (4 * p + i) = (o : Int) := by rw [← eu, ← (y2 z2).2.1]; exact c.2
        obtain ⟨u', hu'⟩ : ∃ u' : jS, ∀ f j, u' f j = if f = 1 ∧ 4 * p ≤ j ∧ j < 4 * p + (i + 1) ∧ s 1 j = (o : Int) then -1 else s f j := ⟨_, fun _ _ => rfl⟩
        have e1 : u' 1 (4 * p + i) = -1 := by rw [hu', if_pos ⟨rfl, by omega, by omega, so⟩]
        refine ih N u' (by rw [hN]; exact f1.si (by omega)) hu' (r1.upd hn8 (j := 4 * p + i) (by omega) (fun y hy hy2 => by rw [hN, iv_si, if_neg (by omega)]) (fun g j hg => ?_) ⟨fun _ => by rw [hN, iv_si, if_pos ⟨rfl, rfl⟩], fun z => absurd e1 z⟩)
        rw [hu, hu']
        by_cases c3 : g = 1 ∧ 4 * p ≤ j ∧ j < 4 * p + i ∧ s 1 j = (o : Int)
        · rw [if_pos c3, if_pos ⟨c3.1, c3.2.1, by omega, c3.2.2.2⟩]
        · rw [if_neg c3, if_neg (fun z => c3 ⟨z.1, z.2.1, by omega, z.2.2.2⟩)]
  have ex : (3 * (p : Int) + 2).toNat = 3 * p + 2 := by omega
  refine vn_choose (by omega) hS ?_
  rw [ex, (hA.2.1 p hp).2, fG_m (hI.2.2.1 p (by omega)) (by omega)]
  have same : x ≠ 2 → ¬ (x = 1 ∧ fG (I.mi p) 0 = 1 ∧ fE (s 1) p ≠ -1) → Q none M := by
    intro h1 h2
    have ec : chF I s p o x = s := by unfold chF; rw [if_neg h2, if_neg h1]
    rw [ec] at h
    exact h M FP.refl hs
  refine ⟨fun c => ?_, fun c => ⟨⟨by omega, by omega⟩, fun c2 => ?_, fun c2 => m_emptyIn (by omega) hS hs (by omega) ⟨_, rfl, hS, fun c3 => ?_, fun c3 => ?_⟩⟩⟩
  · by_cases c2 : x = 2
    · exact two c2
    · exact out M c2 hS (same c2 (fun z => c z.1))
  · exact out M (by omega) hS (same (by omega) (fun z => by have := z.2.1; omega))
  · exact out M (by omega) hS (same (by omega) (fun z => z.2.2 c3))
  · have ec : chF I s p o x = pLay s (4 * p + (fE (s 1) p).toNat) (o : Nat) 0 9 := by
      unfold chF
      rw [if_pos ⟨by omega, by rw [fG_0, Classical.not_not] at c2; exact c2, c3⟩]
    rw [ec] at h
    exact m_putThought (by omega) hS hs hn8 (by omega) c3 (by omega) (fun M' f r => ⟨rfl, f.shp hS, out M' (by omega) (f.shp hS) (h M' f r)⟩)
theorem m_gameOf {p o : Nat} {x y : Int} (hd : 18 ≤ d) (hM : CM M W) (hok : OKW W) (hp : p < W.I.np) (ho : o < W.I.np) (h : ∀ M', FM M M' → CM M' W → Q (some (vI (gmF W.I W.s p o x y))) M') : Call d mX11_gameOf [vR 468, vI (p : Int), vI (o : Int), vI x, vI y] M Q := by
  obtain ⟨e, rfl⟩ := dd (d := d) (by omega)
  have hS := hM.shp
  have gs := hok.gs (by omega)
  obtain ⟨hw, hb⟩ := gm_in (x := x) (y := y) hok.wi gs hp ho
  have hg : WS W.I.np (chF W.I (chF W.I W.s p o x) o p y) := (gs.1.ch hp ho).ch ho hp
  refine vn_gameOf (by omega) hS (m_aside0 (by omega) hS (fun M0 f0 hput => ⟨rfl, f0.shp hS, ?_⟩))
  have s0 := f0.shp hS
  have fb : Fr Tb M M0 := f0.mono (by intro r hr; unfold Tb; omega)
  have e6 : iv M0 486 = iv M 486 := f0.eiv (by omega)
  have A0 : IM M0 W.I := hM.im.fr f0 (by intro r hr; omega)
  refine m_choose (by omega) s0 A0 hok.wi (by rw [MR_f, e6]; exact hM.mr (by omega)) hp (fun M1 f1 r1 => ⟨rfl, f1.shp s0, ?_⟩)
  have s1 := f1.shp s0
  refine m_choose (by omega) s1 (f1.fl.im A0) hok.wi r1 ho (fun M2 f2 r2 => ⟨rfl, f2.shp s1, ?_⟩)
  have s2 := f2.shp s1
  have g2 : FL M0 M2 := f1.fl.trans f2.fl
  have A2 := g2.im A0
  obtain ⟨e', rfl⟩ := dd (d := e) (by omega)
  have w1 := hw p hp
  have w2 := hw o ho
  have a1 := hft_in w1
  have a2 := hft_in w2
  have hm : ∀ z : Int, 0 < z ∧ z < 4611686018427387904 → w32 (((bl z : Nat) : Int) - 1) = hft z := fun z hz => by
    have := hft_in hz
    unfold hft at this ⊢
    exact w32_i (by omega) (by omega)
  refine vn_heftOf (by omega) s2 (m_weightOf (by omega) s2 A2 hok.wi r2 hg hp (fun M3 f3 => ⟨_, rfl, f3.shp s2, ⟨by omega, by omega⟩, _, rfl, f3.shp s2, ?_⟩))
  have s3 := f3.shp s2
  have A3 : IM M3 W.I := (g2.trans (FL.mp f3)).im A0
  have r3 : MR M3 W.I.np (chF W.I (chF W.I W.s p o x) o p y) := r2.fr f3 (by unfold Mp; omega)
  refine vn_heftOf (by omega) s3 (m_weightOf (by omega) s3 A3 hok.wi r3 hg ho (fun M4 f4 => ⟨_, rfl, f4.shp s3, ⟨by omega, by omega⟩, _, rfl, f4.shp s3, ?_⟩))
  have s4 := f4.shp s3
  have A4 : IM M4 W.I := A3.fr f4 (by intro r hr; unfold Mp; omega)
  have r4 : MR M4 W.I.np (chF W.I (chF W.I W.s p o x) o p y) := r3.fr f4 (by unfold Mp; omega)
  refine m_doesFloat (by omega) s4 A4 hok.wi r4 hg ho (fun M5 f5 => ⟨_, rfl, f5.shp s4, fun v hv => ?_⟩)
  refine m_back0 (by omega) s0 fb hput (fun x _ => by rw [e6]) (((g2.trans (FL.mp f3)).trans (FL.mp f4)).trans (FL.mp f5)) (fun M6 f6 k6 => ⟨rfl, f6.shp hS, ?_⟩)
  have hv2 : v = gmF W.I W.s p o x y := by
    rw [hv, hm _ w1, hm _ w2]
    unfold gmF at hb ⊢
    by_cases c : flS (pW W.I (chF W.I (chF W.I W.s p o x) o p y)) o = true
    · rw [if_pos c, if_neg (by decide), if_pos c, w32_i (z := hft (wtS (pW W.I (chF W.I (chF W.I W.s p o x) o p y)) p) - hft (wtS (pW W.I (chF W.I (chF W.I W.s p o x) o p y)) o)) (by omega) (by omega), w32_i (by omega) (by omega)]
    · rw [if_neg c, if_pos rfl, if_neg c, w32_i (z := hft (wtS (pW W.I (chF W.I (chF W.I W.s p o x) o p y)) p) - hft (wtS (pW W.I (chF W.I (chF W.I W.s p o x) o p y)) o)) (by omega) (by omega), w32_i (by omega) (by omega)]
  rw [hv2]
  exact h M6 (hM.tb f6 k6).2 (hM.tb f6 k6).1
theorem fIn_1 {v lo hi : Int} : fIn v lo hi = 1 ↔ lo ≤ v ∧ v ≤ hi := by unfold fIn; split <;> simp_all
theorem M_game {p q x y w : Int} (hd : 20 ≤ d) (hM : CM M W) (hok : OKW W) (h : ∀ M', FM M M' → CM M' W → Q (some (vI (aGame W p q x y w))) M') : Call d mX11_game [vR 468, vI p, vI q, vI x, vI y, vI w] M Q := by
  obtain ⟨e, rfl⟩ := dd (d := d) (by omega)
  have hS := hM.shp
  have hn8 := hok.wi.1
  have h0 := h M Fr.refl hM
  unfold aGame at h h0
  refine vn_game (by omega) hS ?_
  rw [hM.np, w32np hn8]
  simp only [fIn_1, fIn_0, fIn_n, i01]
  refine ⟨fun c => ?_, fun c => ⟨fun c2 => ?_, fun c2 => ⟨fun c3 => ?_, fun c3 => ⟨fun c4 => ?_, fun c4 => ?_⟩⟩⟩⟩
  · rw [if_pos (by omega)] at h0; exact h0
  · rw [if_pos (by omega)] at h0; exact h0
  · rw [if_pos (by omega)] at h0; exact h0
  · rw [if_neg (by omega)] at h
    obtain ⟨a, rfl⟩ : ∃ a : Nat, p = (a : Int) := ⟨p.toNat, by omega⟩
    obtain ⟨b, rfl⟩ : ∃ b : Nat, q = (b : Int) := ⟨q.toNat, by omega⟩
    rw [Int.toNat_natCast, Int.toNat_natCast] at h
    refine ⟨fun c5 => ?_, fun c5 => ?_⟩
    · rw [if_neg c5] at h
      exact m_gameOf (by omega) hM hok (by omega) (by omega) (fun M1 f1 m1 => ⟨_, rfl, m1.shp, h M1 f1 m1⟩)
    · rw [if_pos (by omega)] at h
      exact m_gameOf (by omega) hM hok (by omega) (by omega) (fun M1 f1 m1 => ⟨_, rfl, m1.shp, h M1 f1 m1⟩)
  · rw [if_pos (by omega)] at h0; exact h0
theorem M_isRest {p q x y : Nat} (hd : 19 ≤ d) (hM : CM M W) (hok : OKW W) (hp : p < W.I.np) (hq : q < W.I.np) (h : ∀ M', FM M M' → CM M' W → Q (some (vI (if rsB (g0F W p q) (fun x y => g0F W q p y x) x y = true then 1 else 0))) M') : Call d mX11_isRest [vR 468, vI (p : Int), vI (q : Int), vI (x : Int), vI (y : Int)] M Q := by
  obtain ⟨e, rfl⟩ := dd (d := d) (by omega)
  have hS := hM.shp
  obtain ⟨ok, hok2⟩ : ∃ ok : Nat → Prop, ∀ k, ok k ↔ (g0F W p q k y ≤ g0F W p q x y ∧ g0F W q p k x ≤ g0F W q p y x) := ⟨_, fun _ => Iff.rfl⟩
  have yes : ok 0 → ok 1 → ok 2 → rsB (g0F W p q) (fun x y => g0F W q p y x) x y = true := fun h1 h2 h3 => by
    rw [hok2] at h1 h2 h3
    unfold rsB
    exact decide_eq_true ⟨h1, h2, h3⟩
  have no : ∀ k, k < 3 → ¬ ok k → ¬ rsB (g0F W p q) (fun x y => g0F W q p y x) x y = true := fun k hk h1 h2 => by
    rw [hok2] at h1
    unfold rsB at h2
    have h3 := of_decide_eq_true h2
    have : k = 0 ∨ k = 1 ∨ k = 2 := by omega
    rcases this with z | z | z <;> subst z
    · exact h1 h3.1
    · exact h1 h3.2.1
    · exact h1 h3.2.2
  refine vn_isRest (by omega) hS ?_
  refine up_to (R := fun i => ∀ M1, FM M M1 → CM M1 W → (∀ k, k < i → ok k) → Run (e + 1) mX11_isRest 3 [some (vR 468), some (vI (p : Int)), some (vI (q : Int)), some (vI (x : Int)), some (vI (y : Int)), some (vI (i : Int))] [] M1 Q) 3 ?_ ?_ M Fr.refl hM (fun k hk => absurd hk (by omega))
  · intro M1 f1 m1 hk
    have := h M1 f1 m1
    rw [if_pos (yes (hk 0 (by omega)) (hk 1 (by omega)) (hk 2 (by omega)))] at this
    exact vn_isRest_3 (by omega) m1.shp ⟨fun _ => this, fun c => absurd (by decide) c⟩
  · intro i hi ih M1 f1 m1 hk
    have nok : ¬ ok i → ∀ M', FM M1 M' → CM M' W → Q (some (vI 0)) M' := fun z M' f m => by
      have := h M' (f1.trans f) m
      rw [if_neg (no i hi z)] at this
      exact this
    refine vn_isRest_3 (by omega) m1.shp ⟨fun c => absurd c (by omega), fun _ => ?_⟩
    refine m_gameOf (by omega) m1 hok hp hq (fun M2 f2 m2 => ⟨_, rfl, m2.shp, ?_⟩)
    refine m_gameOf (by omega) m2 hok hp hq (fun M3 f3 m3 => ⟨_, rfl, m3.shp, fun c => ?_, fun c => ?_⟩)
    · exact nok (fun z => by have := ((hok2 i).mp z).1; unfold g0F at this; omega) M3 (f2.trans f3) m3
    · refine m_gameOf (by omega) m3 hok hq hp (fun M4 f4 m4 => ⟨_, rfl, m4.shp, ?_⟩)
      refine m_gameOf (by omega) m4 hok hq hp (fun M5 f5 m5 => ⟨_, rfl, m5.shp, fun c2 => ?_, fun c2 => ?_⟩)
      · rw [w32s (by omega)]
        refine ih M5 ((((f1.trans f2).trans f3).trans f4).trans f5) m5 (fun k hk2 => ?_)
        by_cases z : k = i
        · rw [z, hok2]; unfold g0F; exact ⟨by omega, c2⟩
        · exact hk k (by omega)
      · exact nok (fun z => by have := ((hok2 i).mp z).2; unfold g0F at this; omega) M5 (((f2.trans f3).trans f4).trans f5) m5
theorem M_rests {p q i : Int} (hd : 21 ≤ d) (hM : CM M W) (hok : OKW W) (h : ∀ M', FM M M' → CM M' W → Q (some (vI (aRests W p q i))) M') : Call d mX11_rests [vR 468, vI p, vI q, vI i] M Q := by
  obtain ⟨e, rfl⟩ := dd (d := d) (by omega)
  have hS := hM.shp
  have hn8 := hok.wi.1
  have h0 := h M Fr.refl hM
  unfold aRests at h h0
  refine vn_rests (by omega) hS ?_
  rw [hM.np, w32np hn8]
  simp only [fIn_1, i01]
  refine ⟨fun c => ?_, fun c => ⟨fun c2 => ?_, fun c2 => ?_⟩⟩
  · rw [if_pos (by omega)] at h0; exact h0
  · rw [if_neg (by omega)] at h
    obtain ⟨a, rfl⟩ : ∃ a : Nat, p = (a : Int) := ⟨p.toNat, by omega⟩
    obtain ⟨b, rfl⟩ : ∃ b : Nat, q = (b : Int) := ⟨q.toNat, by omega⟩
    rw [Int.toNat_natCast, Int.toNat_natCast] at h
    have key : ∀ (n k : Nat) (found : Int) (M1 : jM), k + n = 9 → 0 ≤ found → found ≤ k → FM M M1 → CM M1 W → (∀ M', FM M M' → CM M' W → Q (some (vI (cfF (rsW W a b) i n k found))) M') → Run (e + 1) mX11_rests 22 [some (vR 468), some (vI (a : Int)), some (vI (b : Int)), some (vI i), some (vI found), some (vI (k : Int))] [] M1 Q := by
      intro n
      induction n with
      | zero =>
        intro k found M1 hk f0 f1 g1 m1 h
        have := h M1 g1 m1
        simp only [cfF] at this
        refine vn_rests_22 (by omega) m1.shp ⟨fun _ => ?_, fun c => absurd (by omega) c⟩
        refine (congrArg (fun z => Q (some (vI z)) M1) ?_).mp this
        by_cases c7 : i = -1
        · rw [if_pos c7, if_neg (fun z => z c7)]
        · rw [if_neg c7, if_pos c7]
      | succ n ih =>
        intro k found M1 hk f0 f1 g1 m1 h
        refine vn_rests_22 (by omega) m1.shp ⟨fun c => absurd c (by omega), fun _ => ?_⟩
        have ed : jdiv (k : Int) 3 = ((k / 3 : Nat) : Int) := by rw [jdiv_eq ⟨by omega, by omega⟩ ⟨by decide, by decide⟩]; omega
        have er : jrem (k : Int) 3 = ((k % 3 : Nat) : Int) := by rw [jrem_eq ⟨by omega, by omega⟩ ⟨by decide, by decide⟩]; omega
        rw [ed, er]
        clear ed er
        refine M_isRest (by omega) m1 hok (by omega) (by omega) (fun M2 f2 m2 => ⟨_, rfl, m2.shp, ?_⟩)
        simp only [cfF] at h
        rw [show rsB (g0F W a b) (fun x y => g0F W b a y x) (k / 3) (k % 3) = rsW W a b k from rfl, w32s (i := k) (by omega)]
        by_cases c5 : rsW W a b k = true
        · rw [if_pos c5] at h ⊢
          refine ⟨fun c6 => absurd c6 (by decide), fun _ => ⟨fun c6 => ?_, fun c6 => ?_⟩⟩
          · rw [if_neg c6] at h
            rw [w32_i (z := found + 1) (by omega) (by omega)]
            exact ih (k + 1) (found + 1) M2 (by omega) (by omega) (by omega) (g1.trans f2) m2 h
          · rw [if_pos (by omega)] at h
            rw [w32_i (z := 10 * ((k / 3 : Nat) : Int)) (by omega) (by omega), w32_i (by omega) (by omega)]
            exact h M2 (g1.trans f2) m2
        · rw [if_neg c5] at h ⊢
          exact ⟨fun _ => ih (k + 1) found M2 (by omega) f0 (by omega) (g1.trans f2) m2 h, fun c6 => absurd rfl c6⟩
    exact key 9 0 0 M rfl (by omega) (by omega) Fr.refl hM h
  · rw [if_pos (by omega)] at h0; exact h0
end GameM
