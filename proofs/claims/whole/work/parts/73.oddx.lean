/-! odds: of the class -/
section OddsX
variable {d : Nat} {M : jM} {Q : Option jV → jM → Prop} {W : kW} {I : jI}
theorem Lp_mono {k k' r : Nat} (hk : k ≤ k') (h : Lp k M r) : Lp k' M r := h.imp (fun z => ⟨z.1, by omega⟩) id
theorem x_odd {p : Nat} {ch : Int} (hI : WI I) (hp : p < I.np) (hc : 0 ≤ ch ∧ ch ≤ 100) : ∀ (k d : Nat) (M : jM) (s : jS) (pt : Int) (Q : Option jV → jM → Prop), k < 7 → 12 + k ≤ d → Shp M → IA M I → SB M (411 + 8 * k) s → WS I.np s → s 0 9 + k ≤ 19000 → 0 ≤ pt ∧ pt ≤ 1000000000 → (∀ M', Fr (Lp k M) M M' → Q (some (vL (oddF I p ch k s pt))) M') → Call d mX9_floating [vR 410, vR 29, vI (p : Int), vI (k : Int), vI ch, vL pt] M Q := by
  intro k
  induction k with
  | zero =>
    intro d M s pt Q hk hd hS hA hs hw h9 hpt h
    obtain ⟨e, rfl⟩ := dd (d := d) (by omega)
    have hn8 := hI.1
    refine vt_fl (by omega) hS ?_
    rw [if_pos ⟨by omega, by omega⟩, Int.toNat_natCast, lad_at hS hk]
    refine vt_fl_7 (by omega) (lad_st hk) hS ⟨fun c => ?_, fun c => ?_⟩
    · refine x_weigh (by omega) hS hA hI (lad_st hk) hs hw (fun M1 f1 a1 => ⟨rfl, f1.shp hS, fun c2 => absurd rfl c2, fun _ => t_floats (by omega) (f1.shp hS) (lad_st hk) a1 (WS_pW hw) (WM_pW hI) (by omega) ⟨_, rfl, f1.shp hS, ?_⟩⟩)
      have := h M1 (f1.mono (fun r hr => by unfold Lp; unfold Wp at *; omega))
      simp only [oddF] at this
      refine (congrArg (fun z => Q (some (vL z)) M1) ?_).mp this
      by_cases c3 : flS (pW I s) p = true <;> simp [c3]
    · have h0 : pt = 0 := by
        by_cases z : pt = 0
        · exact z
        · exact absurd (fun q => z (jcmp_eq.mp q)) c
      have := h M Fr.refl
      have hb := oddF_in (I := I) (p := p) hc 0 s pt hpt
      rw [show oddF I p ch 0 s pt = 0 by omega] at this
      exact this
  | succ k ih =>
    intro d M s pt Q hk hd hS hA hs hw h9 hpt h
    obtain ⟨e, rfl⟩ := dd (d := d) (by omega)
    have hn8 := hI.1
    obtain ⟨x, o1, o2, e0, ho1, ho2, q1, q2, q3, q4, q5, q6, q7⟩ := odd_step (I := I) (p := p) (s := s) hc k hpt
    have hb := oddF_in (I := I) (p := p) hc (k + 1) s pt hpt
    rw [e0] at h hb
    clear e0
    have hz : pt = 0 → o1 + o2 = 0 := fun z => by omega
    clear hb hpt
    refine vt_fl (by omega) hS ?_
    rw [if_pos ⟨by omega, by omega⟩, Int.toNat_natCast, lad_at hS hk]
    refine vt_fl_7 (by omega) (lad_st hk) hS ⟨fun c => ?_, fun c => ?_⟩
    · refine x_weigh (by omega) hS hA hI (lad_st hk) hs hw (fun M1 f1 a1 => ⟨rfl, f1.shp hS, fun _ => ?_, fun c2 => absurd (by omega) c2⟩)
      have s1 := f1.shp hS
      have hk2 : k < 7 := by omega
      have ek : ∀ _ : Unit, w32 (((k + 1 : Nat) : Int) - 1) = (k : Int) := fun _ => by rw [w32_i (by omega) (by omega)]; omega
      rw [ek (), if_pos ⟨by omega, by omega⟩, Int.toNat_natCast, lad_at s1 hk2]
      have g1 : Fr (Lp (k + 1) M) M M1 := f1.mono (fun r hr => by unfold Lp; unfold Wp at *; omega)
      refine vt_fl_56 (by omega) (lad_st hk) (lad_st hk2) s1 ?_
      rw [ek (), (q1 ()).1, (q1 ()).2, (q3 ()).2]
      refine t_copyMinds (by omega) s1 (lad_st hk2) (lad_st hk) (by omega) a1 (fun M2 f2 a2 => ⟨rfl, f2.shp s1, ?_⟩)
      have s2 := f2.shp s1
      have g2 : Fr (Lp (k + 1) M) M M2 := g1.trans (f2.mono (fun r hr => by unfold Sp at hr; unfold Lp; omega))
      have h2 : SA M2 (411 + 8 * (k + 1)) (pW I s) := a1.fr f2 (fun j hj => by unfold Sp; omega)
      refine t_passHour (by omega) s2 (lad_st hk2) a2 (WS_pW hw) (fun M3 f3 a3 => ⟨rfl, f3.shp s2, ?_⟩)
      have s3 := f3.shp s2
      have g3 : Fr (Lp (k + 1) M) M M3 := g2.trans (f3.mono (fun r hr => by unfold Sp at hr; unfold Lp; omega))
      have h3 : SA M3 (411 + 8 * (k + 1)) (pW I s) := h2.fr f3 (fun j hj => by unfold Sp; omega)
      have A3 : IA M3 I := hA.xc g3 (fun r hr => by unfold Lp Wp at hr; unfold Xc Wp; omega)
      refine ih e M3 (pL I s) (pt - x) _ hk2 (by omega) s3 A3 a3.sb0 (hw.pL (by omega)) (by rw [pL_09]; omega) (q6 ()) (fun M4 f4 => ⟨_, rfl, f4.shp s3, ?_⟩)
      have s4 := f4.shp s3
      have f4' : Fr (Lp k M) M3 M4 := by unfold Lp at f4 ⊢; rw [Wp_eq g3] at f4; exact f4
      have g4 : Fr (Lp (k + 1) M) M M4 := g3.trans (f4'.mono (fun r => Lp_mono (by omega)))
      have h4 : SA M4 (411 + 8 * (k + 1)) (pW I s) := h3.fr f4' (fun j hj => by unfold Lp Wp; omega)
      refine t_copyMinds (by omega) s4 (lad_st hk2) (lad_st hk) (by omega) h4 (fun M5 f5 a5 => ⟨rfl, f5.shp s4, ?_⟩)
      have s5 := f5.shp s4
      have g5 : Fr (Lp (k + 1) M) M M5 := g4.trans (f5.mono (fun r hr => by unfold Sp at hr; unfold Lp; omega))
      refine t_renewTunesOf (by omega) s5 (lad_st hk2) a5 (fun M6 f6 a6 => ⟨rfl, f6.shp s5, ?_⟩)
      have s6 := f6.shp s5
      have g6 : Fr (Lp (k + 1) M) M M6 := g5.trans (f6.mono (fun r hr => by unfold Sp at hr; unfold Lp; omega))
      have A6 : IA M6 I := hA.xc g6 (fun r hr => by unfold Lp Wp at hr; unfold Xc Wp; omega)
      refine x_weigh (by omega) s6 A6 hI (lad_st hk2) (s := pRen (pW I s) p) a6.sb0 (WS_pW (I := I) hw).ren (fun M7 f7 a7 => ⟨rfl, f7.shp s6, ?_⟩)
      rw [pW_ren] at a7
      have s7 := f7.shp s6
      rw [Wp_eq g6] at f7
      have g7 : Fr (Lp (k + 1) M) M M7 := g6.trans (f7.mono (fun r hr => by unfold Lp; unfold Wp at *; omega))
      refine t_passHour (by omega) s7 (lad_st hk2) a7 (WS_pW hw.ren) (fun M8 f8 a8 => ⟨rfl, f8.shp s7, ?_⟩)
      have s8 := f8.shp s7
      have g8 : Fr (Lp (k + 1) M) M M8 := g7.trans (f8.mono (fun r hr => by unfold Sp at hr; unfold Lp; omega))
      have A8 : IA M8 I := hA.xc g8 (fun r hr => by unfold Lp Wp at hr; unfold Xc Wp; omega)
      refine ih e M8 (pL I (pRen s p)) x _ hk2 (by omega) s8 A8 a8.sb0 (hw.ren.pL (by rw [pRen_09]; omega)) (by rw [pL_09, pRen_09]; omega) (q7 ()) (fun M9 f9 => ⟨_, rfl, f9.shp s8, ?_⟩)
      have f9' : Fr (Lp k M) M8 M9 := by unfold Lp at f9 ⊢; rw [Wp_eq g8] at f9; exact f9
      rw [ho1 (), ho2 (), (q5 ()).2]
      exact h M9 (g8.trans (f9'.mono (fun r => Lp_mono (by omega))))
    · have h0 : pt = 0 := by
        by_cases z : pt = 0
        · exact z
        · exact absurd (fun q => z (jcmp_eq.mp q)) c
      have := h M Fr.refl
      rw [hz h0] at this
      exact this
theorem X_odds {p n c : Int} (hd : 22 ≤ d) (hX : CX M W) (hok : OKW W) (h : ∀ M', FX M M' → CX M' W → Q (some (vI (aOdds W p n c))) M') : Call d mX10_odds [vR 6, vI p, vI n, vI c] M Q := by
  obtain ⟨e, rfl⟩ := dd (d := d) (by omega)
  have hS := hX.shp
  have hn8 := hok.wi.1
  have h09 := hok.h0
  have h0 := h M (FX.refl hS) hX
  unfold aOdds at h h0
  refine vx_odds (by omega) hS ⟨fun c1 => ?_, fun c1 => ⟨fun c2 => ?_, fun c2 => ⟨fun c3 => ?_, fun c3 => ⟨fun c4 => ?_, fun c4 => ⟨fun c5 => ?_, fun c5 => ?_⟩⟩⟩⟩⟩
  · rw [i01, hX.np] at c1; rw [if_pos (by omega)] at h0; exact h0
  · rw [if_pos (by omega)] at h0; exact h0
  · rw [if_pos (by omega)] at h0; exact h0
  · rw [if_pos (by omega)] at h0; exact h0
  · rw [i01, hX.np] at c1
    rw [if_neg (by omega)] at h
    obtain ⟨q, rfl⟩ : ∃ q : Nat, p = (q : Int) := ⟨p.toNat, by omega⟩
    obtain ⟨m, rfl⟩ : ∃ m : Nat, n = (m : Int) := ⟨n.toNat, by omega⟩
    rw [Int.toNat_natCast, Int.toNat_natCast] at h
    have gs := hok.gs (by omega)
    obtain ⟨b1, b2⟩ := hX.now.1 (by omega)
    obtain ⟨e', rfl⟩ := dd (d := e) (by omega)
    have hm : m < 7 := by omega
    refine vt_parts (by omega) (by decide) hS ?_
    rw [if_pos ⟨by omega, by omega⟩, Int.toNat_natCast, lad_at hS hm]
    refine vt_parts_11 (by omega) (by decide) (lad_st hm) hS (t_copyMinds (by omega) hS (lad_st hm) (by decide) (by omega) b1.sa (fun M1 f1 a1 => ⟨rfl, f1.shp hS, ?_⟩))
    have s1 := f1.shp hS
    have g1 : Fr (Lp 6 M) M M1 := f1.mono (fun r hr => by unfold Sp at hr; unfold Lp; omega)
    have A1 : IA M1 W.I := hX.ia.xc g1 (fun r hr => by unfold Lp Wp at hr; unfold Xc Wp; omega)
    have hb := oddF_in (I := W.I) (p := q) (ch := c) ⟨by omega, by omega⟩ m W.s 1000000000 ⟨by omega, by omega⟩
    refine x_odd hok.wi (by omega) ⟨by omega, by omega⟩ m e' M1 W.s 1000000000 _ hm (by omega) s1 A1 (a1.sb (fun _ _ => smS_n)) gs.1 (by omega) ⟨by omega, by omega⟩ (fun M2 f2 => ⟨_, rfl, f2.shp s1, _, rfl, f2.shp s1, ?_⟩)
    have f2' : Fr (Lp m M) M1 M2 := by unfold Lp at f2 ⊢; rw [Wp_eq g1] at f2; exact f2
    have g2 : Fr (Lp 6 M) M M2 := g1.trans (f2'.mono (fun r => Lp_mono (by omega)))
    rw [w32_i (by omega) (by omega)]
    exact h M2 (FX.obs g2 hS (fun r hr => by unfold Lp Wp at hr; unfold Xa Wp; omega)) (hX.obs hok g2 (fun r hr => by unfold Lp Wp at hr; unfold Xo Wp; omega))
  · rw [if_pos (by omega)] at h0; exact h0
end OddsX
