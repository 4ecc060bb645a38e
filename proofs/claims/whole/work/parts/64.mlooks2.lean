/-! what is looked at: thoughts, weights, what is apart; of the model -/
section Looks2M
variable {d : Nat} {M : jM} {Q : Option jV → jM → Prop} {W : kW}
theorem CM.mp {M' : jM} (h : CM M W) (hf : Fr Mp M M') : CM M' W ∧ FM M M' := by
  have f4 : F4 Mp (fun _ => False) M M' := F4.of hf (by unfold Mp; omega)
  exact ⟨h.obs f4 (fun r hr => by unfold Mp at hr; unfold Yo; omega) (fun j z => z.elim), hf.mono (fun r hr => by unfold Mp at hr; omega)⟩
/-- what is gone through on the row and taken back -/
def Tb (r : Nat) : Prop := r = 477 ∨ r = 478 ∨ r = 486 ∨ r = 489
theorem CM.tb {M' : jM} (h : CM M W) (hf : Fr Tb M M') (h6 : iv M' 486 = iv M 486) : CM M' W ∧ FM M M' := by
  have f4 : F4 Tb (fun _ => False) M M' := F4.of hf (by unfold Tb; omega)
  refine ⟨h.act f4 (fun r hr => by unfold Tb at hr; unfold Ya; omega) (fun j z => z.elim) ?_ ?_ rfl rfl rfl rfl rfl rfl, hf.mono (fun r hr => by unfold Tb at hr; omega)⟩
  · have := h.now
    unfold NowM PM at this ⊢
    rw [h6, hf.eiv (r := 468) (by unfold Tb; omega), hf.eiv (r := 488) (by unfold Tb; omega)]
    exact this
  · have := h.rfu
    unfold RefM at this ⊢
    rw [hf.eiv (r := 487) (by unfold Tb; omega)]
    exact this
theorem CM.mr (h : CM M W) (hn : 0 < W.I.np) : MR M W.I.np W.s := h.now.1 hn
theorem m_back0 {M0 M1 : jM} (hd : 8 ≤ d) (hS : Shp M0) (hf0 : Fr Tb M M0) (hput : ∀ x, x < 171 → iv M0 489 x = iv M 486 x) (hl : ∀ x, 171 ≤ x → iv M0 486 x = iv M 486 x) (hf1 : FL M0 M1) (h : ∀ M', Fr Tb M M' → iv M' 486 = iv M 486 → Q none M') : Call d mX11_takeBack [vR 468, vI (0 : Int)] M1 Q := by
  refine m_takeBack (k := 0) hd (hf1.shp hS) (by decide) (fun M2 hf2 hx => h M2 ((hf0.trans (hf1.1.mono (by intro r hr; unfold Tb; omega))).trans (hf2.mono (by intro r hr; unfold Tb; omega))) ?_)
  funext x
  rw [hx]
  by_cases c : x < 171
  · rw [if_pos c, hf1.1.eiv (by omega), show 171 * 0 + x = x by omega]; exact hput x c
  · rw [if_neg c, hf1.2 x (by omega)]; exact hl x (by omega)
theorem m_aside0 (hd : 8 ≤ d) (hS : Shp M) (h : ∀ M', Fr (fun r => r = 489) M M' → (∀ x, x < 171 → iv M' 489 x = iv M 486 x) → Q none M') : Call d mX11_putAside [vR 468, vI (0 : Int)] M Q :=
  m_putAside (k := 0) hd hS (by decide) (fun M' hf hx => h M' hf (fun x hx2 => by rw [hx, if_pos (by omega)]; rfl))
theorem M_weight {p : Nat} (hd : 15 ≤ d) (hM : CM M W) (hok : OKW W) (hp : p < W.I.np) (h : ∀ M', Fr Mp M M' → CM M' W → FM M M' → Q (some (vL (W.wt p))) M') : Call d mX11_weightOf [vR 468, vI (p : Int)] M Q := by
  have := hok.wi.1
  exact m_weightOf hd hM.shp hM.im hok.wi (hM.mr (by omega)) (hok.gs (by omega)).1 hp (fun M' hf => h M' hf (hM.mp hf).1 (hM.mp hf).2)
theorem M_thought {p i w : Int} (hd : 15 ≤ d) (hM : CM M W) (hok : OKW W) (h : ∀ M', FM M M' → CM M' W → Q (some (vI (aThought W p i w))) M') : Call d mX11_thought [vR 468, vI p, vI i, vI w] M Q := by
  obtain ⟨e, rfl⟩ := dd (d := d) (by omega)
  have hS := hM.shp
  have hn8 := hok.wi.1
  have h0 := h M Fr.refl hM
  unfold aThought at h h0
  refine vn_thought (by omega) hS ?_
  rw [hM.np, w32np hn8]
  simp only [fIn_0]
  refine ⟨fun c => ?_, fun c => ⟨fun c2 => ?_, fun c2 => ⟨fun c3 => ?_, fun c3 => ⟨by omega, fun c4 => ?_, fun c4 => ?_⟩⟩⟩⟩
  · rw [if_pos (by omega)] at h0; exact h0
  · rw [if_pos (by omega)] at h0; exact h0
  · by_cases c0 : ¬ (0 ≤ p ∧ p < W.I.np) ∨ ¬ (0 ≤ i ∧ i < 4)
    · rw [if_pos c0] at h0; exact h0
    · rw [if_neg c0] at h0
      by_cases c5 : W.s 1 (4 * p.toNat + i.toNat) = -1
      · rw [if_pos c5] at h0; exact h0
      · rw [if_neg c5, if_neg (by omega), if_neg (by omega), if_neg (by omega), if_neg (by omega), if_neg (by omega)] at h0; exact h0
  · obtain ⟨q, rfl⟩ : ∃ q : Nat, p = (q : Int) := ⟨p.toNat, by omega⟩
    obtain ⟨r, rfl⟩ : ∃ r : Nat, i = (r : Int) := ⟨i.toNat, by omega⟩
    have r2 := hM.mr (by omega)
    obtain ⟨b1, b2⟩ := r2.1 (4 * q + r) (by omega)
    have x0 : (20 * (q : Int) + 5 * (r : Int) + 0).toNat = 5 * (4 * q + r) := by omega
    rw [x0] at c4
    have hth : W.s 1 (4 * q + r) ≠ -1 := fun z => c4 (b1 z)
    obtain ⟨y1, y2, y3, y4, y5⟩ := b2 hth
    rw [if_neg (by omega), Int.toNat_natCast, Int.toNat_natCast, if_neg hth] at h h0
    refine ⟨fun c5 => ⟨⟨by omega, by omega, by rw [w32_i (by omega) (by omega)]; omega⟩, ?_⟩, fun c5 => ?_⟩
    · rw [w32_i (by omega) (by omega)]
      have : w = 0 ∨ w = 1 ∨ w = 2 ∨ w = 3 := by omega
      rcases this with rfl | rfl | rfl | rfl
      · rw [if_pos rfl] at h0
        rw [show (20 * (q : Int) + 5 * (r : Int) + (0 + 1)).toNat = 5 * (4 * q + r) + 1 by omega, y2]; exact h0
      · rw [if_neg (by decide), if_pos rfl] at h0
        rw [show (20 * (q : Int) + 5 * (r : Int) + (1 + 1)).toNat = 5 * (4 * q + r) + 2 by omega, y3]; exact h0
      · rw [if_neg (by decide), if_neg (by decide), if_pos rfl] at h0
        rw [show (20 * (q : Int) + 5 * (r : Int) + (2 + 1)).toNat = 5 * (4 * q + r) + 3 by omega, y4]; exact h0
      · rw [if_neg (by decide), if_neg (by decide), if_neg (by decide), if_pos rfl] at h0
        rw [show (20 * (q : Int) + 5 * (r : Int) + (3 + 1)).toNat = 5 * (4 * q + r) + 4 by omega, y5]; exact h0
    · rw [if_neg (by omega), if_neg (by omega), if_neg (by omega), if_neg (by omega), if_pos (by omega)] at h
      refine m_massOf (by omega) hS hM.im hok.wi r2 (hok.gs (by omega)).1 (by omega) (by omega) hth (fun M2 f2 => ⟨_, rfl, f2.shp hS, ?_⟩)
      have hm := massS_in (I := W.I) (s := W.s) hok.wi (j := 4 * q + r) (by omega)
      rw [w32_i (by omega) (by omega)]
      exact h M2 (hM.mp f2).2 (hM.mp f2).1
  · obtain ⟨q, rfl⟩ : ∃ q : Nat, p = (q : Int) := ⟨p.toNat, by omega⟩
    obtain ⟨r, rfl⟩ : ∃ r : Nat, i = (r : Int) := ⟨i.toNat, by omega⟩
    obtain ⟨b1, b2⟩ := (hM.mr (by omega)).1 (4 * q + r) (by omega)
    have x0 : (20 * (q : Int) + 5 * (r : Int) + 0).toNat = 5 * (4 * q + r) := by omega
    rw [x0] at c4
    rw [if_neg (by omega), Int.toNat_natCast, Int.toNat_natCast] at h0
    by_cases hth : W.s 1 (4 * q + r) = -1
    · rw [if_pos hth] at h0; exact h0
    · exact absurd (b2 hth).1 (by omega)
theorem grain_m {x : Int} (h : 0 < x ∧ x < 4611686018427387904) : (if (24 : Int) ≤ hft x then jshrL (w64 (x - (jshlL (1 : Int) (hft x)))) (w32 ((w32 (hft x - (24 : Int))) + (1 : Int))) else jshlL (w64 (x - (jshlL (1 : Int) (hft x)))) (w32 ((23 : Int) - hft x))) = grF x ∧ 0 ≤ grF x ∧ grF x < 8388608 := by
  obtain ⟨a1, a2, a3, a4⟩ := hft_in h
  have hp := Nat.two_pow_pos (hft x).toNat
  have e1 : jshlL 1 (hft x) = ((2 ^ (hft x).toNat : Nat) : Int) := by
    rw [jshlL_eq ⟨by omega, by omega⟩, Int.one_mul, w64_i (by omega) (by omega)]
  rw [e1, w64_i (z := x - ((2 ^ (hft x).toNat : Nat) : Int)) (by omega) (by omega), w32_i (z := hft x - 24) (by omega) (by omega), w32_i (z := hft x - 24 + 1) (by omega) (by omega), w32_i (z := 23 - hft x) (by omega) (by omega)]
  unfold grF
  by_cases c : hft x ≤ 23
  · obtain ⟨g1, g2⟩ := grain_lo h c
    have e2 : ((2 ^ (hft x).toNat : Nat) : Int) * ((2 ^ (23 - hft x).toNat : Nat) : Int) = 8388608 := by
      rw [← Int.natCast_mul, ← Nat.pow_add, show (hft x).toNat + (23 - hft x).toNat = 23 by omega]; rfl
    rw [if_neg (by omega), if_pos c, jshlL_eq ⟨by omega, by omega⟩, Int.sub_mul, e2, w64_i (by omega) (by omega)]
    omega
  · obtain ⟨g1, g2⟩ := grain_hi h c
    have hp2 := Nat.two_pow_pos (hft x - 23).toNat
    have e2 : ((2 ^ (hft x).toNat : Nat) : Int) = (8388608 : Int) * ((2 ^ (hft x - 23).toNat : Nat) : Int) := by
      rw [show (8388608 : Int) = ((2 ^ 23 : Nat) : Int) from rfl, ← Int.natCast_mul, ← Nat.pow_add, show 23 + (hft x - 23).toNat = (hft x).toNat by omega]
    rw [if_pos (by omega), if_neg c, jshrL_eq ⟨by omega, by omega⟩ ⟨by omega, by omega⟩, show (hft x - 24 + 1).toNat = (hft x - 23).toNat by omega, e2]
    have e3 : (x - 8388608 * ((2 ^ (hft x - 23).toNat : Nat) : Int)) / ((2 ^ (hft x - 23).toNat : Nat) : Int) = x / ((2 ^ (hft x - 23).toNat : Nat) : Int) - 8388608 := by
      rw [show x - 8388608 * ((2 ^ (hft x - 23).toNat : Nat) : Int) = x + (-8388608) * ((2 ^ (hft x - 23).toNat : Nat) : Int) by omega, Int.add_mul_ediv_right _ _ (by omega)]
      omega
    rw [e3]
    omega
theorem M_person {p w : Int} (hd : 17 ≤ d) (hM : CM M W) (hok : OKW W) (h0 : ¬ okPer W p w → ∀ M', FM M M' → CM M' W → iv M' 468 0 = 1 → Q (some (vI 0)) M') (h : okPer W p w → ∀ M', FM M M' → CM M' W → iv M' 468 0 = 0 → Q (some (vI (aPerson W p w))) M') : Call d mX11_person [vR 468, vI p, vI w] M Q := by
  obtain ⟨e, rfl⟩ := dd (d := d) (by omega)
  have hS := hM.shp
  have hn8 := hok.wi.1
  refine vn_person (by omega) hS (fun N hN sN => ?_)
  rw [hM.np, w32np hn8] at hN
  simp only [fIn_0] at hN
  have f4 : F4 (fun _ => False) (fun j => j = 0) M N := by rw [hN]; exact F4.refl.pj rfl
  have cN : CM N W := hM.obs f4 (fun r z => z.elim) (fun j z => z)
  have fN : FM M N := FM.of f4 (fun r z => z.elim)
  by_cases hv : okPer W p w
  · have hv' := hv
    unfold okPer at hv'
    have e0 : iv N 468 0 = 0 := by
      rw [hN, iv_si, if_pos ⟨rfl, rfl⟩, if_neg (by omega), if_neg (by omega)]
    have h := h hv
    unfold aPerson at h
    obtain ⟨q, rfl⟩ : ∃ q : Nat, p = (q : Int) := ⟨p.toNat, by omega⟩
    rw [Int.toNat_natCast] at h
    have r2 := cN.mr (by omega)
    have hw := W.wt_in hok (p := q) (by omega)
    have ehf : w32 (((bl (W.wt q) : Nat) : Int) - 1) = hft (W.wt q) := by
      have := hft_in hw
      unfold hft at this ⊢
      exact w32_i (by omega) (by omega)
    have keep : ∀ M', Fr Mp N M' → FM M M' ∧ CM M' W ∧ iv M' 468 0 = 0 := fun M' f2 => ⟨FM.trans fN (cN.mp f2).2, (cN.mp f2).1, by rw [f2.eiv (by unfold Mp; omega)]; exact e0⟩
    refine ⟨fun _ => ⟨fun z => ?_, fun z => ?_, fun z => ?_, fun z => ?_, fun z => ?_, fun z => ?_, fun z => absurd z (by omega)⟩, fun z => absurd z (by omega)⟩
    · rw [if_pos z] at h
      rw [w32_i (by omega) (by omega), show (160 + (q : Int)).toNat = 160 + q by omega, r2.2.1 q (by omega)]
      exact ⟨by omega, h N fN cN e0⟩
    · subst z
      rw [if_neg (by decide), if_pos rfl] at h
      rw [w32_i (z := 3 * (q : Int)) (by omega) (by omega), w32_i (z := 3 * (q : Int) + 1) (by omega) (by omega), show (3 * (q : Int) + 1).toNat = 3 * q + 1 by omega, (cN.im.2.1 q (by omega)).1]
      exact ⟨by omega, h N fN cN e0⟩
    · subst z
      rw [if_neg (by decide), if_neg (by decide), if_pos rfl] at h
      rw [w32_i (z := 3 * (q : Int)) (by omega) (by omega), w32_i (z := 3 * (q : Int) + 2) (by omega) (by omega), show (3 * (q : Int) + 2).toNat = 3 * q + 2 by omega, (cN.im.2.1 q (by omega)).2]
      exact ⟨by omega, h N fN cN e0⟩
    · rw [if_neg (by omega), if_neg (by omega), if_neg (by omega), if_pos z] at h
      refine M_weight (by omega) cN hok (by omega) (fun M2 f2 c2 _ => ⟨_, rfl, c2.shp, ?_⟩)
      rw [fTm_fT (by omega)]
      obtain ⟨k1, k2, k3⟩ := keep M2 f2
      exact h M2 k1 k2 k3
    · rw [if_neg (by omega), if_neg (by omega), if_neg (by omega), if_neg (by omega), if_pos z] at h
      obtain ⟨e', rfl⟩ := dd (d := e) (by omega)
      refine vn_heftOf (by omega) sN (M_weight (by omega) cN hok (by omega) (fun M2 f2 c2 _ => ⟨_, rfl, c2.shp, ⟨by omega, by omega⟩, ?_⟩))
      rw [ehf]
      obtain ⟨k1, k2, k3⟩ := keep M2 f2
      exact ⟨_, rfl, c2.shp, h M2 k1 k2 k3⟩
    · rw [if_neg (by omega), if_neg (by omega), if_neg (by omega), if_neg (by omega), if_neg (by omega)] at h
      obtain ⟨e', rfl⟩ := dd (d := e) (by omega)
      refine vn_grainOf (by omega) sN (M_weight (by omega) cN hok (by omega) (fun M2 f2 c2 _ => ⟨_, rfl, c2.shp, ⟨by omega, by omega⟩, fun v7 hv7 => ?_⟩))
      obtain ⟨gm1, gm2, gm3⟩ := grain_m hw
      rw [ehf, gm1] at hv7
      rw [hv7, w32_i (by omega) (by omega)]
      obtain ⟨k1, k2, k3⟩ := keep M2 f2
      exact ⟨_, rfl, c2.shp, h M2 k1 k2 k3⟩
  · have hv' := hv
    unfold okPer at hv'
    have e0 : iv N 468 0 = 1 := by
      rw [hN, iv_si, if_pos ⟨rfl, rfl⟩]
      by_cases c1 : ¬ (0 ≤ p ∧ p ≤ (W.I.np : Int) - 1)
      · rw [if_pos c1]
      · rw [if_neg c1, if_pos (by omega)]
    exact ⟨fun z => absurd e0 z, fun _ => h0 hv N fN cN e0⟩
theorem M_behind {p n : Int} (hd : 17 ≤ d) (hM : CM M W) (hok : OKW W) (h : ∀ M', FM M M' → CM M' W → Q (some (vI (aBehind W p n))) M') : Call d mX11_behind [vR 468, vI p, vI n] M Q := by
  obtain ⟨e, rfl⟩ := dd (d := d) (by omega)
  have hS := hM.shp
  have hn8 := hok.wi.1
  have h09 := hok.h0
  have h0 := h M Fr.refl hM
  unfold aBehind at h h0
  refine vn_behind (by omega) hS ?_
  rw [hM.np, w32np hn8]
  simp only [fIn_0, fIn_n]
  refine ⟨fun c => ?_, fun c => ⟨fun c2 => ?_, fun c2 => ?_⟩⟩
  · rw [if_pos (by omega)] at h0; exact h0
  · rw [if_neg (by omega)] at h
    obtain ⟨q, rfl⟩ : ∃ q : Nat, p = (q : Int) := ⟨p.toNat, by omega⟩
    obtain ⟨m, rfl⟩ : ∃ m : Nat, n = (m : Int) := ⟨n.toNat, by omega⟩
    rw [Int.toNat_natCast, Int.toNat_natCast] at h
    have gs := hok.gs (by omega)
    refine m_aside0 (by omega) hS (fun M0 f0 hp => ⟨rfl, f0.shp hS, ?_⟩)
    have s0 := f0.shp hS
    have fb : Fr Tb M M0 := f0.mono (by intro r hr; unfold Tb; omega)
    have e6 : iv M0 486 = iv M 486 := f0.eiv (by omega)
    have A0 : IM M0 W.I := hM.im.fr f0 (by intro r hr; omega)
    refine up_to (R := fun i => ∀ M1, FL M0 M1 → MR M1 W.I.np (itF (pL W.I) i W.s) → Run (e + 1) mX11_behind 27 [some (vR 468), some (vI (q : Int)), some (vI (m : Int)), some (vI (i : Int))] [] M1 Q) m ?_ ?_ M0 FL.refl (by rw [MR_f, e6]; exact hM.mr (by omega))
    · intro M1 f1 r1
      obtain ⟨o1, o2⟩ := itL_ws (I := W.I) gs.1 m (by omega)
      have wp := wtS_17 (I := W.I) (p := q) o1 hok.wi (by omega)
      refine vn_behind_27 (by omega) (f1.shp s0) ⟨fun _ => m_weightOf (by omega) (f1.shp s0) (f1.im A0) hok.wi r1 o1 (by omega) (fun M2 f2 => ⟨_, rfl, f2.shp (f1.shp s0), ?_⟩), fun c => absurd (Int.le_refl _) c⟩
      refine m_back0 (by omega) s0 fb hp (fun x _ => by rw [e6]) (f1.trans (FL.mp f2)) (fun M3 f3 k3 => ⟨rfl, f3.shp hS, ?_⟩)
      rw [fTm_fT (by omega)]
      exact h M3 (hM.tb f3 k3).2 (hM.tb f3 k3).1
    · intro i hi ih M1 f1 r1
      obtain ⟨o1, o2⟩ := itL_ws (I := W.I) gs.1 i (by omega)
      refine vn_behind_27 (by omega) (f1.shp s0) ⟨fun c => absurd c (by omega), fun _ => m_live (by omega) (f1.shp s0) (f1.im A0) hok.wi r1 o1 (fun M2 f2 r2 => ⟨rfl, f2.shp (f1.shp s0), ?_⟩)⟩
      rw [w32s (by omega)]
      exact ih M2 (f1.trans f2) r2
  · rw [if_pos (by omega)] at h0; exact h0
theorem M_floatsIn {p : Int} (hd : 18 ≤ d) (hM : CM M W) (hok : OKW W) (h : ∀ M', FM M M' → CM M' W → Q (some (vI (aFloatsIn W p))) M') : Call d mX11_floatsIn [vR 468, vI p] M Q := by
  obtain ⟨e, rfl⟩ := dd (d := d) (by omega)
  have hS := hM.shp
  have hn8 := hok.wi.1
  have h09 := hok.h0
  have h0 := h M Fr.refl hM
  unfold aFloatsIn at h h0
  refine vn_floatsIn (by omega) hS ?_
  rw [hM.np, w32np hn8]
  simp only [fIn_n]
  refine ⟨fun c => ?_, fun c => ?_⟩
  · rw [if_neg (by omega)] at h
    obtain ⟨q, rfl⟩ : ∃ q : Nat, p = (q : Int) := ⟨p.toNat, by omega⟩
    rw [Int.toNat_natCast] at h
    have gs := hok.gs (by omega)
    refine m_aside0 (by omega) hS (fun M0 f0 hp => ⟨rfl, f0.shp hS, ?_⟩)
    have s0 := f0.shp hS
    have fb : Fr Tb M M0 := f0.mono (by intro r hr; unfold Tb; omega)
    have e6 : iv M0 486 = iv M 486 := f0.eiv (by omega)
    have A0 : IM M0 W.I := hM.im.fr f0 (by intro r hr; omega)
    refine up_to (R := fun i => ∀ M1 l3, FL M0 M1 → MR M1 W.I.np (itF (pL W.I) i W.s) → (∀ M', FM M M' → CM M' W → Q (some (vI (fstF (fun n => flS (pW W.I (itF (pL W.I) n W.s)) q) (100 - i) i))) M') → Run (e + 1) mX11_floatsIn 17 [some (vR 468), some (vI (q : Int)), some (vI (i : Int)), l3] [] M1 Q) 99 ?_ ?_ M0 _ FL.refl (by rw [MR_f, e6]; exact hM.mr (by omega)) h
    · intro M1 l3 f1 r1 h
      obtain ⟨o1, o2⟩ := itL_ws (I := W.I) gs.1 99 (by omega)
      simp only [show 100 - 99 = 0 + 1 by decide, fstF] at h
      refine vn_floatsIn_17 (by omega) (f1.shp s0) ⟨fun _ => m_doesFloat (by omega) (f1.shp s0) (f1.im A0) hok.wi r1 o1 (by omega) (fun M2 f2 => ⟨_, rfl, f2.shp (f1.shp s0), ?_⟩), fun c => absurd (by decide) c⟩
      refine m_back0 (by omega) s0 fb hp (fun x _ => by rw [e6]) (f1.trans (FL.mp f2)) (fun M3 f3 k3 => ⟨rfl, f3.shp hS, ?_⟩)
      have h := h M3 (hM.tb f3 k3).2 (hM.tb f3 k3).1
      refine (congrArg (fun z => Q (some (vI z)) M3) ?_).mp h
      by_cases c3 : flS (pW W.I (itF (pL W.I) 99 W.s)) q = true
      · simp [c3]
      · simp [c3]
    · intro i hi ih M1 l3 f1 r1 h
      obtain ⟨o1, o2⟩ := itL_ws (I := W.I) gs.1 i (by omega)
      rw [show 100 - i = (100 - (i + 1)) + 1 by omega] at h
      simp only [fstF] at h
      refine vn_floatsIn_17 (by omega) (f1.shp s0) ⟨fun c => absurd c (by omega), fun _ => m_doesFloat (by omega) (f1.shp s0) (f1.im A0) hok.wi r1 o1 (by omega) (fun M2 f2 => ⟨_, rfl, f2.shp (f1.shp s0), ?_⟩)⟩
      have f12 := f1.trans (FL.mp f2)
      have r2 : MR M2 W.I.np (itF (pL W.I) i W.s) := r1.fr f2 (by unfold Mp; omega)
      by_cases c3 : flS (pW W.I (itF (pL W.I) i W.s)) q = true
      · rw [if_pos c3] at h
        rw [if_pos c3]
        refine ⟨fun _ => m_doesFloat (by omega) (f12.shp s0) (f12.im A0) hok.wi r2 o1 (by omega) (fun M3 f3 => ⟨_, rfl, f3.shp (f12.shp s0), ?_⟩), fun z => absurd (by decide) z⟩
        refine m_back0 (by omega) s0 fb hp (fun x _ => by rw [e6]) (f12.trans (FL.mp f3)) (fun M4 f4 k4 => ⟨rfl, f4.shp hS, ?_⟩)
        rw [if_pos c3, if_neg (by decide)]
        exact h M4 (hM.tb f4 k4).2 (hM.tb f4 k4).1
      · rw [if_neg c3] at h
        rw [if_neg c3]
        refine ⟨fun z => absurd rfl z, fun _ => m_live (by omega) (f12.shp s0) (f12.im A0) hok.wi r2 o1 (fun M3 f3 r3 => ⟨rfl, f3.shp (f12.shp s0), ?_⟩)⟩
        rw [w32s (by omega)]
        exact ih M3 _ (f12.trans f3) r3 h
  · rw [if_pos (by omega)] at h0; exact h0
theorem M_shares {p c : Int} (hd : 17 ≤ d) (hM : CM M W) (hok : OKW W) (h : ∀ M', FM M M' → CM M' W → Q (some (vI (aShares W p c))) M') : Call d mX11_shares [vR 468, vI p, vI c] M Q := by
  obtain ⟨e, rfl⟩ := dd (d := d) (by omega)
  have hS := hM.shp
  have hn8 := hok.wi.1
  have h0 := h M Fr.refl hM
  unfold aShares at h h0
  refine vn_shares (by omega) hS ?_
  rw [hM.np, w32np hn8]
  simp only [fIn_0, fIn_n]
  refine ⟨fun c1 => ?_, fun c1 => ⟨fun c2 => ?_, fun c2 => ?_⟩⟩
  · rw [if_pos (by omega)] at h0; exact h0
  · rw [if_neg (by omega)] at h
    obtain ⟨q, rfl⟩ : ∃ q : Nat, p = (q : Int) := ⟨p.toNat, by omega⟩
    rw [Int.toNat_natCast] at h
    refine up_to (R := fun i => ∀ M1, CM M1 W → FM M M1 → Run (e + 1) mX11_shares 26 [some (vR 468), some (vI (q : Int)), some (vI c), some (vL (sumF (fun q => fT (W.wt q)) i)), none, some (vI (i : Int))] [] M1 Q) W.I.np ?_ ?_ M hM Fr.refl
    · intro M1 m1 f1
      refine vn_shares_26 (by omega) m1.shp ⟨fun _ => M_weight (by omega) m1 hok (by omega) (fun M2 _ m2 f2 => ⟨_, rfl, m2.shp, ?_⟩), fun z => absurd z (by rw [m1.np]; omega)⟩
      have hw := W.wt_in hok (p := q) (by omega)
      have t1 := fT_in (v := W.wt q)
      have t2 := fT_pos hw.1
      obtain ⟨g1, g2⟩ := sumF_ge (f := fun q => fT (W.wt q)) W.I.np (fun j _ => fT_in.1)
      have g3 := g2 q (by omega)
      have g4 := sumF_fT (f := W.wt) W.I.np
      have g3' : fT (W.wt q) ≤ sumF (fun q => fT (W.wt q)) W.I.np := g3
      have hc0 : 0 ≤ c * fT (W.wt q) := Int.mul_nonneg (by omega) t1.1
      have hc1 : c * fT (W.wt q) ≤ 999 * 2147483647 := Int.mul_le_mul (by omega) t1.2 t1.1 (by omega)
      have hc2 : c * fT (W.wt q) ≤ c * sumF (fun q => fT (W.wt q)) W.I.np := Int.mul_le_mul_of_nonneg_left g3' (by omega)
      have hd0 : 0 ≤ c * fT (W.wt q) / sumF (fun q => fT (W.wt q)) W.I.np := Int.ediv_nonneg hc0 g1
      have hd1 : c * fT (W.wt q) / sumF (fun q => fT (W.wt q)) W.I.np ≤ c := Int.ediv_le_of_le_mul (by omega) hc2
      rw [fTm_fT (by omega)]
      refine ⟨by omega, ?_⟩
      rw [w64_i (by omega) (by omega), jdivL_eq ⟨by omega, by omega⟩ ⟨by omega, by omega⟩, w32_i (by omega) (by omega)]
      exact h M2 (FM.trans f1 f2) m2
    · intro i hi ih M1 m1 f1
      have g4 := sumF_fT (f := W.wt) i
      obtain ⟨g1, _⟩ := sumF_ge (f := fun q => fT (W.wt q)) i (fun j _ => fT_in.1)
      have t1 := fT_in (v := W.wt i)
      have hw := W.wt_in hok hi
      refine vn_shares_26 (by omega) m1.shp ⟨fun z => absurd z (by rw [m1.np]; omega), fun _ => M_weight (by omega) m1 hok hi (fun M2 _ m2 f2 => ⟨_, rfl, m2.shp, ?_⟩)⟩
      rw [fTm_fT (by omega), w64_i (by omega) (by omega), w32s (by omega)]
      exact ih M2 m2 (FM.trans f1 f2)
  · rw [if_pos (by omega)] at h0; exact h0
end Looks2M
