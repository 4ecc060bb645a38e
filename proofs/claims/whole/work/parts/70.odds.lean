/-! odds: of both -/
def oddF (I : jI) (p : Nat) (ch : Int) : Nat → jS → Int → Int
  | 0, s, pt => if flS (pW I s) p then pt else 0
  | k + 1, s, pt => oddF I p ch k (pL I s) (pt - pt * ch / 100) + oddF I p ch k (pL I (pRen s p)) (pt * ch / 100)
theorem tune_in {pt ch : Int} (hp : 0 ≤ pt ∧ pt ≤ 1000000000) (hc : 0 ≤ ch ∧ ch ≤ 100) : 0 ≤ pt * ch ∧ pt * ch ≤ 100000000000 ∧ 0 ≤ pt * ch / 100 ∧ pt * ch / 100 ≤ pt := by
  have h1 : 0 ≤ pt * ch := Int.mul_nonneg hp.1 hc.1
  have h2 : pt * ch ≤ pt * 100 := Int.mul_le_mul_of_nonneg_left hc.2 hp.1
  omega
theorem oddF_in {I : jI} {p : Nat} {ch : Int} (hc : 0 ≤ ch ∧ ch ≤ 100) : ∀ (k : Nat) (s : jS) (pt : Int), 0 ≤ pt ∧ pt ≤ 1000000000 → 0 ≤ oddF I p ch k s pt ∧ oddF I p ch k s pt ≤ pt
  | 0, s, pt, h => by simp only [oddF]; split <;> omega
  | k + 1, s, pt, h => by
    obtain ⟨t1, t2, t3, t4⟩ := tune_in h hc
    have a := oddF_in (I := I) (p := p) hc k (pL I s) (pt - pt * ch / 100) (by omega)
    have b := oddF_in (I := I) (p := p) hc k (pL I (pRen s p)) (pt * ch / 100) (by omega)
    simp only [oddF]
    omega
theorem WS.ren {n : Nat} {s : jS} {w : Int} (h : WS n s) : WS n (pRen s w) := by
  obtain ⟨w1, w2, w3, w4, w5, w6⟩ := h
  have e : ∀ f i, f ≠ 4 → pRen s w f i = s f i := fun f i hf => if_neg (fun z => hf z.1)
  refine ⟨fun i hi => ?_, fun i hi hn => ?_, fun i hi => ?_, ?_, ?_, ?_⟩
  · rw [e 1 i (by omega), e 2 i (by omega), e 3 i (by omega)]
    have := w1 i hi
    have h4 : pRen s w 4 i = 0 ∨ pRen s w 4 i = s 4 i := by unfold pRen; split <;> simp
    rcases h4 with z | z <;> omega
  · rw [e 1 i (by omega)]; exact w2 i hi hn
  · rw [e 6 i (by omega)]; exact w3 i hi
  · rw [e 0 7 (by omega)]; exact w4
  · rw [e 0 8 (by omega)]; exact w5
  · rw [e 0 9 (by omega)]; exact w6
theorem pRen_09 {s : jS} {w : Int} : pRen s w 0 9 = s 0 9 := if_neg (fun z => by omega)
theorem pW_ren {I : jI} {s : jS} {w : Int} : pW I (pRen (pW I s) w) = pW I (pRen s w) := by
  refine pW_cg (fun f i hf => ?_)
  unfold pRen
  rw [pW_n (f := 1) (by decide), pW_n (f := 2) (by decide), pW_n hf]
def aOdds (W : kW) (p n c : Int) : Int := if ¬ (0 ≤ p ∧ p < W.I.np) ∨ n < 0 ∨ 6 < n ∨ c < 0 ∨ 100 < c then -1 else oddF W.I p.toNat c n.toNat W.s 1000000000
section OddsX
variable {d : Nat} {M : jM} {Q : Option jV → jM → Prop} {W : kW} {I : jI}
theorem lad_at (hS : Shp M) {j : Nat} (h : j < 7) : rv M 410 j = 411 + 8 * j := hS.2.2 410 j _ (by unfold R1; rw [if_neg (by decide), if_neg (by decide), if_pos rfl, if_pos h])
theorem lad_st {j : Nat} (h : j < 7) : isSt (411 + 8 * j) = true := by
  unfold isSt
  simp only [decide_eq_true_eq]
  omega
def Lp (k : Nat) (M : jM) (r : Nat) : Prop := (411 ≤ r ∧ r < 419 + 8 * k) ∨ Wp M r
theorem x_odd {p : Nat} {ch : Int} (hI : WI I) (hp : p < I.np) (hc : 0 ≤ ch ∧ ch ≤ 100) : ∀ (k d : Nat) (M : jM) (s : jS) (pt : Int) (Q : Option jV → jM → Prop), k < 7 → 12 + k ≤ d → Shp M → IA M I → SB M (411 + 8 * k) s → WS I.np s → s 0 9 + k ≤ 19000 → 0 ≤ pt ∧ pt ≤ 1000000000 → (∀ M', Fr (Lp k M) M M' → Q (some (vL (oddF I p ch k s pt))) M') → Call d mX9_floating [vR 410, vR 29, vI (p : Int), vI (k : Int), vI ch, vL pt] M Q := by
  intro k
  induction k with
  | zero =>
    intro d M s pt Q hk hd hS hA hs hw h9 hpt h
    obtain ⟨e, rfl⟩ := dd (d := d) (by omega)
    have hn8 := hI.1
    refine vt_fl (by omega) hS ?_
    rw [if_pos ⟨by omega, by omega⟩, Int.toNat_natCast, lad_at hS hk]
    refine vt_fl_7 (by omega) (lad_st hk) hS ⟨fun c => ?_, fun c => ?_⟩
    · refine x_weigh (by omega) hS hA hI (lad_st hk) hs hw (fun M1 f1 a1 => ⟨rfl, f1.shp hS, fun c2 => absurd rfl c2, fun _ => t_floats (by omega) (f1.shp hS) (lad_st hk) a1 (WS_pW hw) (WM_pW hI) (by omega) ⟨_, rfl, f1.shp hS, ?_⟩⟩)
      have := h M1 (f1.mono (fun r hr => by unfold Lp; unfold Wp at *; omega))
      simp only [oddF] at this
      refine (congrArg (fun z => Q (some (vL z)) M1) ?_).mp this
      by_cases c3 : flS (pW I s) p = true <;> simp [c3]
    · have h0 : pt = 0 := by
        by_cases z : pt = 0
        · exact z
        · exact absurd (fun q => z (jcmp_eq.mp q)) c
      have := h M Fr.refl
      have hb := oddF_in (I := I) (p := p) hc 0 s pt hpt
      rw [show oddF I p ch 0 s pt = 0 by omega] at this
      exact this
  | succ k ih =>
    intro d M s pt Q hk hd hS hA hs hw h9 hpt h
    obtain ⟨e, rfl⟩ := dd (d := d) (by omega)
    have hn8 := hI.1
    obtain ⟨t1, t2, t3, t4⟩ := tune_in hpt hc
    refine vt_fl (by omega) hS ?_
    rw [if_pos ⟨by omega, by omega⟩, Int.toNat_natCast, lad_at hS hk]
    refine vt_fl_7 (by omega) (lad_st hk) hS ⟨fun c => ?_, fun c => ?_⟩
    · refine x_weigh (by omega) hS hA hI (lad_st hk) hs hw (fun M1 f1 a1 => ⟨rfl, f1.shp hS, fun _ => ?_, fun c2 => absurd (by omega) c2⟩)
      have s1 := f1.shp hS
      have hk2 : k < 7 := by omega
      have ek : w32 (((k + 1 : Nat) : Int) - 1) = (k : Int) := by rw [w32_i (by omega) (by omega)]; omega
      rw [ek, if_pos ⟨by omega, by omega⟩, Int.toNat_natCast, lad_at s1 hk2]
      have g1 : Fr (Lp (k + 1) M) M M1 := f1.mono (fun r hr => by unfold Lp; unfold Wp at *; omega)
      refine vt_fl_56 (by omega) (lad_st hk) (lad_st hk2) s1 ?_
      rw [ek, w64_i (z := pt * ch) (by omega) (by omega), jdivL_eq ⟨by omega, by omega⟩ ⟨by decide, by decide⟩, w64_i (z := pt - pt * ch / 100) (by omega) (by omega)]
      refine t_copyMinds (by omega) s1 (lad_st hk2) (lad_st hk) (by omega) a1 (fun M2 f2 a2 => ⟨rfl, f2.shp s1, ?_⟩)
      have s2 := f2.shp s1
      have g2 : Fr (Lp (k + 1) M) M M2 := g1.trans (f2.mono (fun r hr => by unfold Sp at hr; unfold Lp; omega))
      have h2 : SA M2 (411 + 8 * (k + 1)) (pW I s) := a1.fr f2 (fun j hj => by unfold Sp; omega)
      refine t_passHour (by omega) s2 (lad_st hk2) a2 (WS_pW hw) (fun M3 f3 a3 => ⟨rfl, f3.shp s2, ?_⟩)
      have s3 := f3.shp s2
      have g3 : Fr (Lp (k + 1) M) M M3 := g2.trans (f3.mono (fun r hr => by unfold Sp at hr; unfold Lp; omega))
      have h3 : SA M3 (411 + 8 * (k + 1)) (pW I s) := h2.fr f3 (fun j hj => by unfold Sp; omega)
      have A3 : IA M3 I := hA.xc g3 (fun r hr => by unfold Lp Wp at hr; unfold Xc Wp; omega)
      refine ih e M3 (pL I s) (pt - pt * ch / 100) _ hk2 (by omega) s3 A3 a3.sb0 (hw.pL (by omega)) (by rw [pL_09]; omega) (by omega) (fun M4 f4 => ⟨_, rfl, f4.shp s3, ?_⟩)
      have s4 := f4.shp s3
      have f4' : Fr (Lp k M) M3 M4 := by unfold Lp at f4 ⊢; rw [Wp_eq g3] at f4; exact f4
      have g4 : Fr (Lp (k + 1) M) M M4 := g3.trans (f4'.mono (fun r hr => by unfold Lp at *; omega))
      have h4 : SA M4 (411 + 8 * (k + 1)) (pW I s) := h3.fr f4' (fun j hj => by unfold Lp Wp; omega)
      refine t_copyMinds (by omega) s4 (lad_st hk2) (lad_st hk) (by omega) h4 (fun M5 f5 a5 => ⟨rfl, f5.shp s4, ?_⟩)
      have s5 := f5.shp s4
      have g5 : Fr (Lp (k + 1) M) M M5 := g4.trans (f5.mono (fun r hr => by unfold Sp at hr; unfold Lp; omega))
      refine t_renewTunesOf (by omega) s5 (lad_st hk2) a5 (fun M6 f6 a6 => ⟨rfl, f6.shp s5, ?_⟩)
      have s6 := f6.shp s5
      have g6 : Fr (Lp (k + 1) M) M M6 := g5.trans (f6.mono (fun r hr => by unfold Sp at hr; unfold Lp; omega))
      have A6 : IA M6 I := hA.xc g6 (fun r hr => by unfold Lp Wp at hr; unfold Xc Wp; omega)
      refine x_weigh (by omega) s6 A6 hI (lad_st hk2) (s := pRen (pW I s) p) a6.sb0 (WS_pW (I := I) hw).ren (fun M7 f7 a7 => ⟨rfl, f7.shp s6, ?_⟩)
      rw [pW_ren] at a7
      have s7 := f7.shp s6
      rw [Wp_eq g6] at f7
      have g7 : Fr (Lp (k + 1) M) M M7 := g6.trans (f7.mono (fun r hr => by unfold Lp; unfold Wp at *; omega))
      refine t_passHour (by omega) s7 (lad_st hk2) a7 (WS_pW hw.ren) (fun M8 f8 a8 => ⟨rfl, f8.shp s7, ?_⟩)
      have s8 := f8.shp s7
      have g8 : Fr (Lp (k + 1) M) M M8 := g7.trans (f8.mono (fun r hr => by unfold Sp at hr; unfold Lp; omega))
      have A8 : IA M8 I := hA.xc g8 (fun r hr => by unfold Lp Wp at hr; unfold Xc Wp; omega)
      refine ih e M8 (pL I (pRen s p)) (pt * ch / 100) _ hk2 (by omega) s8 A8 a8.sb0 (hw.ren.pL (by rw [pRen_09]; omega)) (by rw [pL_09, pRen_09]; omega) (by omega) (fun M9 f9 => ⟨_, rfl, f9.shp s8, ?_⟩)
      have f9' : Fr (Lp k M) M8 M9 := by unfold Lp at f9 ⊢; rw [Wp_eq g8] at f9; exact f9
      have b1 := oddF_in (I := I) (p := p) hc k (pL I s) (pt - pt * ch / 100) (by omega)
      have b2 := oddF_in (I := I) (p := p) hc k (pL I (pRen s p)) (pt * ch / 100) (by omega)
      rw [w64_i (by omega) (by omega)]
      exact h M9 (g8.trans (f9'.mono (fun r hr => by unfold Lp at *; omega)))
    · have h0 : pt = 0 := by
        by_cases z : pt = 0
        · exact z
        · exact absurd (fun q => z (jcmp_eq.mp q)) c
      have := h M Fr.refl
      have hb := oddF_in (I := I) (p := p) hc (k + 1) s pt hpt
      rw [show oddF I p ch (k + 1) s pt = 0 by omega] at this
      exact this
theorem X_odds {p n c : Int} (hd : 22 ≤ d) (hX : CX M W) (hok : OKW W) (h : ∀ M', FX M M' → CX M' W → Q (some (vI (aOdds W p n c))) M') : Call d mX10_odds [vR 6, vI p, vI n, vI c] M Q := by
  obtain ⟨e, rfl⟩ := dd (d := d) (by omega)
  have hS := hX.shp
  have hn8 := hok.wi.1
  have h09 := hok.h0
  have h0 := h M (FX.refl hS) hX
  unfold aOdds at h h0
  refine vx_odds (by omega) hS ⟨fun c1 => ?_, fun c1 => ⟨fun c2 => ?_, fun c2 => ⟨fun c3 => ?_, fun c3 => ⟨fun c4 => ?_, fun c4 => ⟨fun c5 => ?_, fun c5 => ?_⟩⟩⟩⟩⟩
  · rw [i01, hX.np] at c1; rw [if_pos (by omega)] at h0; exact h0
  · rw [if_pos (by omega)] at h0; exact h0
  · rw [if_pos (by omega)] at h0; exact h0
  · rw [if_pos (by omega)] at h0; exact h0
  · rw [i01, hX.np] at c1
    rw [if_neg (by omega)] at h
    obtain ⟨q, rfl⟩ : ∃ q : Nat, p = (q : Int) := ⟨p.toNat, by omega⟩
    obtain ⟨m, rfl⟩ : ∃ m : Nat, n = (m : Int) := ⟨n.toNat, by omega⟩
    rw [Int.toNat_natCast, Int.toNat_natCast] at h
    have gs := hok.gs (by omega)
    obtain ⟨b1, b2⟩ := hX.now.1 (by omega)
    obtain ⟨e', rfl⟩ := dd (d := e) (by omega)
    have hm : m < 7 := by omega
    refine vt_parts (by omega) (by decide) hS ?_
    rw [if_pos ⟨by omega, by omega⟩, Int.toNat_natCast, lad_at hS hm]
    refine vt_parts_11 (by omega) (by decide) (lad_st hm) hS (t_copyMinds (by omega) hS (lad_st hm) (by decide) (by omega) b1.sa (fun M1 f1 a1 => ⟨rfl, f1.shp hS, ?_⟩))
    have s1 := f1.shp hS
    have g1 : Fr (Lp 6 M) M M1 := f1.mono (fun r hr => by unfold Sp at hr; unfold Lp; omega)
    have A1 : IA M1 W.I := hX.ia.xc g1 (fun r hr => by unfold Lp Wp at hr; unfold Xc Wp; omega)
    have hb := oddF_in (I := W.I) (p := q) (ch := c) ⟨by omega, by omega⟩ m W.s 1000000000 ⟨by omega, by omega⟩
    refine x_odd hok.wi (by omega) ⟨by omega, by omega⟩ m e' M1 W.s 1000000000 _ hm (by omega) s1 A1 (a1.sb (fun _ _ => smS_n)) gs.1 (by omega) ⟨by omega, by omega⟩ (fun M2 f2 => ⟨_, rfl, f2.shp s1, _, rfl, f2.shp s1, ?_⟩)
    have f2' : Fr (Lp m M) M1 M2 := by unfold Lp at f2 ⊢; rw [Wp_eq g1] at f2; exact f2
    have g2 : Fr (Lp 6 M) M M2 := g1.trans (f2'.mono (fun r hr => by unfold Lp at *; omega))
    rw [w32_i (by omega) (by omega)]
    exact h M2 (FX.obs g2 hS (fun r hr => by unfold Lp Wp at hr; unfold Xa Wp; omega)) (hX.obs hok g2 (fun r hr => by unfold Lp Wp at hr; unfold Xo Wp; omega))
  · rw [if_pos (by omega)] at h0; exact h0
end OddsX
section OddsM
variable {d : Nat} {M : jM} {Q : Option jV → jM → Prop} {W : kW} {I : jI} {s : jS}
theorem m_tuneUp {w : Nat} (hd : 7 ≤ d) (hS : Shp M) (hA : IM M I) (hI : WI I) (hs : MR M I.np s) (hw : WS I.np s) (h : ∀ M', FP M M' → MR M' I.np (pRen s w) → Q none M') : Call d mX11_tuneUp [vR 468, vI (w : Int)] M Q := by
  obtain ⟨e, rfl⟩ := dd (d := d) (by omega)
  have hn8 := hI.1
  have prk : ∀ k f i, (i < k → (fun (f i : Nat) => if i < k then pRen s w f i else s f i) f i = pRen s w f i) := fun k f i hi => if_pos hi
  refine vn_tuneUp (by omega) hS ?_
  -- renewed ahead of the k-th
  have def_ : ∀ k : Nat, ∃ u : jS, (∀ f i, u f i = if i < k then pRen s w f i else s f i) := fun k => ⟨_, fun _ _ => rfl⟩
  have nx : ∀ (k : Nat) (u u' : jS), (∀ f i, u f i = if i < k then pRen s w f i else s f i) → (∀ f i, u' f i = if i < k + 1 then pRen s w f i else s f i) → ∀ g x, (x ≠ k ∨ g = 0 ∨ 5 ≤ g) → u' g x = u g x := by
    intro k u u' h1 h2 g x hg
    rw [h1, h2]
    by_cases c : x < k
    · rw [if_pos c, if_pos (by omega)]
    · rw [if_neg c]
      by_cases c2 : x < k + 1
      · rw [if_pos c2]; exact if_neg (fun z => by omega)
      · rw [if_neg c2]
  refine up_to (R := fun p => ∀ M1 l3 u, FP M M1 → (∀ f i, u f i = if i < 4 * p then pRen s w f i else s f i) → MRf (iv M1 486) I.np u → Run (e + 1) mX11_tuneUp 2 [some (vR 468), some (vI (w : Int)), some (vI (p : Int)), l3] [] M1 Q) I.np ?_ ?_ M _ s FP.refl (fun f i => by rw [if_neg (by omega)]) (MR_f.mp hs)
  · intro M1 l3 u f1 hu r1
    have A1 : IM M1 I := hA.fr f1.1 (by intro r hr; omega)
    refine vn_tuneUp_2 (by omega) (f1.shp hS) ⟨fun _ => h M1 f1 (r1.sc (fun j hj => ?_) (fun p hp => ?_) ?_ ?_ ?_), fun c => absurd c (by rw [A1.1]; omega)⟩
    · rw [hu, hu, hu, hu]
      by_cases c : j < 4 * I.np
      · rw [if_pos c, if_pos c, if_pos c, if_pos c]; exact ⟨rfl, fun _ => ⟨rfl, rfl, rfl⟩⟩
      · rw [if_neg c]
        exact ⟨if_neg (fun z => by omega), fun z => absurd (hw.2.1 j hj (by omega)) z⟩
    · rw [hu]
      have : pRen s w 6 p = s 6 p := if_neg (fun z => by omega)
      split <;> simp [this]
    · rw [hu]
      have : pRen s w 0 7 = s 0 7 := if_neg (fun z => by omega)
      split <;> simp [this]
    · rw [hu]
      have : pRen s w 0 8 = s 0 8 := if_neg (fun z => by omega)
      split <;> simp [this]
    · rw [hu]
      have : pRen s w 0 9 = s 0 9 := if_neg (fun z => by omega)
      split <;> simp [this]
  · intro p hp ih M1 l3 u f1 hu r1
    have A1 : IM M1 I := hA.fr f1.1 (by intro r hr; omega)
    refine vn_tuneUp_2 (by omega) (f1.shp hS) ⟨fun c => absurd c (by rw [A1.1]; omega), fun _ => ?_⟩
    refine up_to (R := fun i => ∀ M1 u, FP M M1 → (∀ f x, u f x = if x < 4 * p + i then pRen s w f x else s f x) → MRf (iv M1 486) I.np u → Run (e + 1) mX11_tuneUp 12 [some (vR 468), some (vI (w : Int)), some (vI (p : Int)), some (vI (i : Int))] [] M1 Q) 4 ?_ ?_ M1 u f1 hu r1
    · intro M1 u f1 hu r1
      refine vn_tuneUp_12 (by omega) (f1.shp hS) ⟨fun _ => ?_, fun c => absurd c (by decide)⟩
      rw [w32s (by omega)]
      exact ih M1 _ u f1 hu r1
    · intro i hi ih2 M1 u f1 hu r1
      obtain ⟨u', hu'⟩ := def_ (4 * p + i + 1)
      have ho := nx _ u u' hu hu'
      obtain ⟨y1, y2⟩ := r1.1 (4 * p + i) (by omega)
      have eu : ∀ f, u f (4 * p + i) = s f (4 * p + i) := fun f => by rw [hu, if_neg (by omega)]
      rw [eu, eu, eu, eu] at *
      have x0 : (20 * (p : Int) + 5 * (i : Int)).toNat = 5 * (4 * p + i) := by omega
      have x1 : (20 * (p : Int) + 5 * (i : Int) + 1).toNat = 5 * (4 * p + i) + 1 := by omega
      have x2 : (20 * (p : Int) + 5 * (i : Int) + 2).toNat = 5 * (4 * p + i) + 2 := by omega
      have x4 : (20 * (p : Int) + 5 * (i : Int) + 4).toNat = 5 * (4 * p + i) + 4 := by omega
      have e' : ∀ f, u' f (4 * p + i) = pRen s w f (4 * p + i) := fun f => by rw [hu', if_pos (by omega)]
      have keep : pRen s w 4 (4 * p + i) = s 4 (4 * p + i) ∨ s 1 (4 * p + i) = -1 → MRf (iv M1 486) I.np u' := by
        intro hk
        refine r1.upd hn8 (j := 4 * p + i) (by omega) (fun _ _ _ => rfl) ho ?_
        rw [e', e', e', e', show pRen s w 1 (4 * p + i) = s 1 (4 * p + i) from if_neg (fun z => by omega), show pRen s w 2 (4 * p + i) = s 2 (4 * p + i) from if_neg (fun z => by omega), show pRen s w 3 (4 * p + i) = s 3 (4 * p + i) from if_neg (fun z => by omega)]
        refine ⟨y1, fun z => ?_⟩
        rcases hk with hk | hk
        · rw [hk]; exact y2 z
        · exact absurd hk z
      refine vn_tuneUp_12 (by omega) (f1.shp hS) ?_
      rw [x0, x1, x2, x4, w32s (by omega)]
      refine ⟨fun c => absurd c (by omega), fun _ => ⟨⟨⟨by omega, by omega⟩, by omega, by omega⟩, fun c => ?_, fun c => ⟨fun c2 => ?_, fun c2 N hN sN => ?_⟩⟩⟩
      · rw [i01] at c
        refine ih2 M1 u' f1 (fun f x => by rw [hu']; rfl) (keep ?_)
        by_cases z : s 1 (4 * p + i) = -1
        · exact Or.inr z
        · refine Or.inl (if_neg (fun q => c ?_))
          exact ⟨(y2 z).1, by rw [(y2 z).2.1]; exact q.2.1⟩
      · rw [i01, Classical.not_not] at c
        have z : s 1 (4 * p + i) ≠ -1 := fun q => by rw [y1 q] at c; omega
        rw [(y2 z).2.2.1] at c2
        exact ih2 M1 u' f1 (fun f x => by rw [hu']; rfl) (keep (Or.inl (if_neg (fun q => c2 q.2.2))))
      · rw [i01, Classical.not_not] at c
        have z : s 1 (4 * p + i) ≠ -1 := fun q => by rw [y1 q] at c; omega
        have c2 : s 2 (4 * p + i) = 2 := by
          rw [(y2 z).2.2.1] at c2
          by_cases q : s 2 (4 * p + i) = 2
          · exact q
          · exact absurd q c2
        have c1 : s 1 (4 * p + i) = w := by rw [(y2 z).2.1] at c; exact c.2
        have hv : ∀ x, iv N 486 x = if x = 5 * (4 * p + i) + 4 then 0 else iv M1 486 x := by
          intro x; rw [hN]; simp only [iv_si, true_and]
        refine ih2 N u' (by rw [hN]; exact f1.si (by omega)) (fun f x => by rw [hu']; rfl) (r1.upd hn8 (j := 4 * p + i) (by omega) (fun x hx hx2 => by rw [hv, if_neg (by omega)]) ho ?_)
        rw [e', e', e', e', show pRen s w 1 (4 * p + i) = s 1 (4 * p + i) from if_neg (fun z => by omega), show pRen s w 2 (4 * p + i) = s 2 (4 * p + i) from if_neg (fun z => by omega), show pRen s w 3 (4 * p + i) = s 3 (4 * p + i) from if_neg (fun z => by omega), show pRen s w 4 (4 * p + i) = 0 from if_pos ⟨rfl, c1, c2⟩]
        obtain ⟨z1, z2, z3, z4, z5⟩ := y2 z
        refine ⟨fun q => absurd q z, fun _ => ⟨?_, ?_, ?_, ?_, ?_⟩⟩
        · rw [hv, if_neg (by omega)]; exact z1
        · rw [hv, if_neg (by omega)]; exact z2
        · rw [hv, if_neg (by omega)]; exact z3
        · rw [hv, if_neg (by omega)]; exact z4
        · rw [hv, if_pos rfl]
theorem m_oddsFrom {p : Nat} {ch : Int} (hI : WI I) (hp : p < I.np) (hc : 0 ≤ ch ∧ ch ≤ 100) : ∀ (k d dp : Nat) (M : jM) (s : jS) (pt : Int) (Q : Option jV → jM → Prop), dp + k ≤ 6 → 18 + k ≤ d → Shp M → IM M I → MR M I.np s → WS I.np s → s 0 9 + k ≤ 19000 → 0 ≤ pt ∧ pt ≤ 1000000000 → (∀ M', Fr Tb M M' → iv M' 486 = iv M 486 → (∀ x, x < 171 * dp → iv M' 489 x = iv M 489 x) → Q (some (vI (oddF I p ch k s pt))) M') → Call d mX11_oddsFrom [vR 468, vI (dp : Int), vI (p : Int), vI (k : Int), vI ch, vI pt] M Q := by
  intro k
  induction k with
  | zero =>
    intro d dp M s pt Q hk hd hS hA hs hw h9 hpt h
    obtain ⟨e, rfl⟩ := dd (d := d) (by omega)
    refine vn_oddsFrom (by omega) hS ⟨fun c => absurd rfl c, fun _ => m_doesFloat (by omega) hS hA hI hs hw hp (fun M1 f1 => ⟨_, rfl, f1.shp hS, ?_⟩)⟩
    have := h M1 (f1.mono (fun r hr => by unfold Mp at hr; unfold Tb; omega)) (f1.eiv (by unfold Mp; omega)) (fun x _ => by rw [f1.eiv (by unfold Mp; omega)])
    simp only [oddF] at this
    refine (congrArg (fun z => Q (some (vI z)) M1) ?_).mp this
    by_cases c3 : flS (pW I s) p = true <;> simp [c3]
  | succ k ih =>
    intro d dp M s pt Q hk hd hS hA hs hw h9 hpt h
    obtain ⟨e, rfl⟩ := dd (d := d) (by omega)
    obtain ⟨t1, t2, t3, t4⟩ := tune_in hpt hc
    have b1 := oddF_in (I := I) (p := p) hc k (pL I s) (pt - pt * ch / 100) (by omega)
    have b2 := oddF_in (I := I) (p := p) hc k (pL I (pRen s p)) (pt * ch / 100) (by omega)
    have ek : w32 (((k + 1 : Nat) : Int) - 1) = (k : Int) := by rw [w32_i (by omega) (by omega)]; omega
    have edp : w32 ((dp : Int) + 1) = ((dp + 1 : Nat) : Int) := w32s (by omega)
    refine vn_oddsFrom (by omega) hS ⟨fun _ => m_putAside (by omega) hS (by omega) (fun M1 f1 hx => ⟨rfl, f1.shp hS, ?_⟩), fun c => absurd (by omega) c⟩
    have s1 := f1.shp hS
    have A1 : IM M1 I := hA.fr f1 (by intro r hr; omega)
    have k1 : iv M1 486 = iv M 486 := f1.eiv (by omega)
    have r1 : MR M1 I.np s := by rw [MR_f, k1]; exact hs
    have g1 : Fr Tb M M1 := f1.mono (fun r hr => by unfold Tb; omega)
    rw [w64_i (z := pt * ch) (by omega) (by omega), jdivL_eq ⟨by omega, by omega⟩ ⟨by decide, by decide⟩, w32_i (z := pt * ch / 100) (by omega) (by omega)]
    -- back again from whatever was gone through behind this row
    have back : ∀ (M2 M3 : jM) (Q' : jM → Prop), FL M1 M2 → Fr Tb M2 M3 → iv M3 486 = iv M2 486 → (∀ x, x < 171 * (dp + 1) → iv M3 489 x = iv M2 489 x) → (∀ M4, Fr Tb M1 M4 → iv M4 486 = iv M 486 → (∀ x, x < 171 * (dp + 1) → iv M4 489 x = iv M1 489 x) → Q' M4) → Call e mX11_takeBack [vR 468, vI (dp : Int)] M3 (fun r M4 => r = none ∧ Shp M4 ∧ Q' M4) := by
      intro M2 M3 Q' f2 f3 k3 q3 h'
      have s3 := f3.shp (f2.shp s1)
      refine m_takeBack (by omega) s3 (by omega) (fun M4 f4 x4 => ⟨rfl, f4.shp s3, h' M4 (((f2.1.mono (by intro r hr; unfold Tb; omega)).trans f3).trans (f4.mono (by intro r hr; unfold Tb; omega))) ?_ ?_⟩)
      · funext x
        rw [x4, k3]
        by_cases c : x < 171
        · rw [if_pos c, q3 _ (by omega), f2.1.eiv (by omega), hx, if_pos (by omega)]
          congr 1
          omega
        · rw [if_neg c, f2.2 x (by omega), k1]
      · intro x hx2
        rw [f4.eiv (by omega), q3 x hx2, f2.1.eiv (by omega)]
    have two : ∀ (M4 : jM) (z1 : Int), z1 = oddF I p ch k (pL I s) (pt - pt * ch / 100) → Fr Tb M1 M4 → iv M4 486 = iv M 486 → (∀ x, x < 171 * (dp + 1) → iv M4 489 x = iv M1 489 x) → Run (e + 1) mX11_oddsFrom 44 [some (vR 468), some (vI (dp : Int)), some (vI (p : Int)), some (vI ((k + 1 : Nat) : Int)), some (vI ch), some (vI pt), some (vI (pt * ch / 100)), some (vI z1), some (vI 1)] [] M4 Q := by
      intro M4 z1 hz1 f4 k4 q4
      have s4 := f4.shp s1
      have A4 : IM M4 I := A1.fr f4 (by intro r hr; unfold Tb; omega)
      have r4 : MR M4 I.np s := by rw [MR_f, k4]; exact hs
      refine vn_oddsFrom_44 (by omega) s4 ⟨fun c => absurd c (by decide), fun _ => ⟨fun c => absurd rfl c, fun _ => m_tuneUp (by omega) s4 A4 hI r4 hw (fun M5 f5 r5 => ⟨rfl, f5.shp s4, ?_⟩)⟩⟩
      have s5 := f5.shp s4
      refine m_live (by omega) s5 (f5.fl.im A4) hI r5 hw.ren (fun M6 f6 r6 => ⟨rfl, f6.shp s5, ?_⟩)
      have s6 := f6.shp s5
      have f46 := f5.fl.trans f6
      rw [ek, edp, if_neg (fun z => z rfl)]
      refine ih e (dp + 1) M6 (pL I (pRen s p)) (pt * ch / 100) _ (by omega) (by omega) s6 (f46.im A4) r6 (hw.ren.pL (by rw [pRen_09]; omega)) (by rw [pL_09, pRen_09]; omega) (by omega) (fun M7 f7 k7 q7 => ⟨_, rfl, f7.shp s6, ?_⟩)
      have s7 := f7.shp s6
      refine m_takeBack (by omega) s7 (by omega) (fun M8 f8 x8 => ⟨rfl, f8.shp s7, ?_⟩)
      have k8 : iv M8 486 = iv M 486 := by
        funext x
        rw [x8, k7]
        by_cases c : x < 171
        · rw [if_pos c, q7 _ (by omega), f46.1.eiv (by omega), q4 _ (by omega), hx, if_pos (by omega)]
          congr 1
          omega
        · rw [if_neg c, f46.2 x (by omega), k4]
      refine vn_oddsFrom_44 (by omega) (f8.shp s7) ⟨fun _ => ?_, fun c => absurd (by decide) c⟩
      rw [hz1, w32_i (by omega) (by omega)]
      refine h M8 ((((g1.trans f4).trans (f46.1.mono (by intro r hr; unfold Tb; omega))).trans f7).trans (f8.mono (by intro r hr; unfold Tb; omega))) k8 (fun x hx2 => ?_)
      rw [f8.eiv (by omega), q7 x (by omega), f46.1.eiv (by omega), q4 x (by omega), hx, if_neg (by omega)]
    refine vn_oddsFrom_44 (by omega) s1 ⟨fun c => absurd c (by decide), fun _ => ⟨fun _ => m_live (by omega) s1 A1 hI r1 hw (fun M2 f2 r2 => ⟨rfl, f2.shp s1, ?_⟩), fun c => absurd (by decide) c⟩⟩
    have s2 := f2.shp s1
    rw [ek, edp, if_pos (by decide), w32_i (z := pt - pt * ch / 100) (by omega) (by omega)]
    refine ih e (dp + 1) M2 (pL I s) (pt - pt * ch / 100) _ (by omega) (by omega) s2 (f2.im A1) r2 (hw.pL (by omega)) (by rw [pL_09]; omega) (by omega) (fun M3 f3 k3 q3 => ⟨_, rfl, f3.shp s2, ?_⟩)
    rw [Int.zero_add, w32_i (z := oddF I p ch k (pL I s) (pt - pt * ch / 100)) (by omega) (by omega)]
    exact back M2 M3 _ f2 f3 k3 q3 (fun M4 f4 k4 q4 => two M4 _ rfl f4 k4 q4)
theorem M_odds {p n c : Int} (hd : 26 ≤ d) (hM : CM M W) (hok : OKW W) (h : ∀ M', FM M M' → CM M' W → Q (some (vI (aOdds W p n c))) M') : Call d mX11_odds [vR 468, vI p, vI n, vI c] M Q := by
  obtain ⟨e, rfl⟩ := dd (d := d) (by omega)
  have hS := hM.shp
  have hn8 := hok.wi.1
  have h09 := hok.h0
  have h0 := h M Fr.refl hM
  unfold aOdds at h h0
  refine vn_odds (by omega) hS ?_
  rw [hM.np, w32np hn8]
  simp only [fIn_0, fIn_n]
  refine ⟨fun c1 => ?_, fun c1 => ⟨fun c2 => ?_, fun c2 => ⟨fun c3 => ?_, fun c3 => ?_⟩⟩⟩
  · rw [if_pos (by omega)] at h0; exact h0
  · rw [if_pos (by omega)] at h0; exact h0
  · rw [if_neg (by omega)] at h
    obtain ⟨q, rfl⟩ : ∃ q : Nat, p = (q : Int) := ⟨p.toNat, by omega⟩
    obtain ⟨m, rfl⟩ : ∃ m : Nat, n = (m : Int) := ⟨n.toNat, by omega⟩
    rw [Int.toNat_natCast, Int.toNat_natCast] at h
    exact m_oddsFrom hok.wi (by omega) ⟨by omega, by omega⟩ m e 0 M W.s 1000000000 _ (by omega) (by omega) hS hM.im (hM.mr (by omega)) (hok.gs (by omega)).1 (by omega) ⟨by omega, by omega⟩ (fun M2 f2 k2 _ => ⟨_, rfl, f2.shp hS, h M2 (hM.tb f2 k2).2 (hM.tb f2 k2).1⟩)
  · rw [if_pos (by omega)] at h0; exact h0
end OddsM
