/-! what is looked at: thoughts, weights, what is apart; of the class -/
def aThought (W : kW) (p i w : Int) : Int := if ¬ (0 ≤ p ∧ p < W.I.np) ∨ ¬ (0 ≤ i ∧ i < 4) then -1 else if W.s 1 (4 * p.toNat + i.toNat) = -1 then -1 else if w = 0 then W.s 1 (4 * p.toNat + i.toNat) else if w = 1 then W.s 2 (4 * p.toNat + i.toNat) else if w = 2 then W.s 3 (4 * p.toNat + i.toNat) else if w = 3 then W.s 4 (4 * p.toNat + i.toNat) else if w = 4 then massS W.I W.s (4 * p.toNat + i.toNat) else -1
def kW.wt (W : kW) (p : Nat) : Int := wtS (pW W.I W.s) p
def aPerson (W : kW) (p w : Int) : Int := if w = 0 then W.s 6 p.toNat else if w = 1 then W.I.dp p.toNat else if w = 2 then W.I.mi p.toNat else if w = 3 then fT (W.wt p.toNat) else if w = 4 then hft (W.wt p.toNat) else grF (W.wt p.toNat)
def okPer (W : kW) (p w : Int) : Prop := 0 ≤ p ∧ p < W.I.np ∧ 0 ≤ w ∧ w ≤ 5
def aBehind (W : kW) (p n : Int) : Int := if ¬ (0 ≤ p ∧ p < W.I.np) ∨ n < 0 ∨ 60 < n then -1 else fT (wtS (pW W.I (itF (pL W.I) n.toNat W.s)) p.toNat)
def fstF (c : Nat → Bool) : Nat → Nat → Int
  | 0, _ => -1
  | k + 1, n => if c n = true then (n : Int) else fstF c k (n + 1)
def aFloatsIn (W : kW) (p : Int) : Int := if ¬ (0 ≤ p ∧ p < W.I.np) then -1 else fstF (fun n => flS (pW W.I (itF (pL W.I) n W.s)) p.toNat) 100 0
def aShares (W : kW) (p c : Int) : Int := if ¬ (0 ≤ p ∧ p < W.I.np) ∨ c < 0 ∨ 999 < c then -1 else c * fT (W.wt p.toNat) / sumF (fun q => fT (W.wt q)) W.I.np
theorem itL_ws {I : jI} {s : jS} {n : Nat} (h : WS n s) : ∀ k : Nat, s 0 9 + k ≤ 20000 → WS n (itF (pL I) k s) ∧ itF (pL I) k s 0 9 = s 0 9 + k
  | 0, _ => ⟨h, by simp [itF]⟩
  | k + 1, hk => by
    obtain ⟨h1, h2⟩ := itL_ws (I := I) h k (by omega)
    refine ⟨h1.pL (by omega), ?_⟩
    show pL I (itF (pL I) k s) 0 9 = _
    rw [pL_09, h2]
    omega
theorem fT_in {v : Int} : 0 ≤ fT v ∧ fT v ≤ 2147483647 := fW_in (by decide)
theorem fT_pos {v : Int} (h : 0 < v) : 0 < fT v := by unfold fT fW; split <;> (try split) <;> omega
theorem fTm_fT {v : Int} (h : 0 ≤ v) : fTm v = fT v := by
  unfold fTm fT fW
  by_cases c : v < 2147483647
  · rw [if_pos c, if_neg (by omega), if_neg (by omega), w32_i (by omega) (by omega)]
  · rw [if_neg c, if_neg (by omega)]
    by_cases c2 : 2147483647 < v
    · rw [if_pos c2]; rfl
    · rw [if_neg c2, w32_i (by omega) (by omega)]; omega
theorem sumF_ge {f : Nat → Int} : ∀ n, (∀ j, j < n → 0 ≤ f j) → 0 ≤ sumF f n ∧ ∀ p, p < n → f p ≤ sumF f n
  | 0, _ => ⟨by simp [sumF], fun p hp => by omega⟩
  | n + 1, h => by
    obtain ⟨a, b⟩ := sumF_ge n (fun j hj => h j (by omega))
    have := h n (by omega)
    simp only [sumF]
    refine ⟨by omega, fun p hp => ?_⟩
    by_cases c : p = n
    · rw [c]; omega
    · have := b p (by omega); omega
theorem sumF_fT {f : Nat → Int} : ∀ n, sumF (fun q => fT (f q)) n ≤ 2147483647 * (n : Int)
  | 0 => by simp [sumF]
  | n + 1 => by
    have := sumF_fT (f := f) n
    have := fT_in (v := f n)
    simp only [sumF]
    omega
section Looks2X
variable {d : Nat} {M : jM} {Q : Option jV → jM → Prop} {W : kW}
theorem X_weighed (hd : 8 ≤ d) (hX : CX M W) (hok : OKW W) (hn : 0 < W.I.np) (h : ∀ M', CX M' W → FX M M' → SA M' 33 (pW W.I W.s) → Q none M') : Call d mX1_weigh [vR 29, vR 33] M Q := by
  obtain ⟨b1, b2⟩ := hX.now.1 hn
  refine x_weigh hd hX.shp hX.ia hok.wi (by decide) b1 (hok.gs hn).1 (fun M' hf ha => h M' ?_ ?_ ha)
  · exact hX.obs hok hf (fun r hr => by unfold Wp at hr; unfold Xo Wp; omega)
  · exact FX.obs hf hX.shp (fun r hr => by unfold Wp at hr; unfold Xa Wp; omega)
theorem X_weight {p : Nat} (hd : 2 ≤ d) (hX : CX M W) (hok : OKW W) (ha : SA M 33 (pW W.I W.s)) (hp : p < W.I.np) (h : Q (some (vL (W.wt p))) M) : Call d mX7_weight [vR 33, vI (p : Int)] M Q := by
  have := hok.wi.1
  exact t_weight hd hX.shp (by decide) ha (WS_pW (hok.gs (by omega)).1) (WM_pW hok.wi) (by omega) h
theorem kW.wt_in (hok : OKW W) {p : Nat} (hp : p < W.I.np) : 0 < W.wt p ∧ W.wt p < 4611686018427387904 := by
  have h8 := hok.wi.1
  have h1 := wtS_17 (I := W.I) (p := p) (hok.gs (by omega)).1 hok.wi (by omega)
  have h2 := wtS_pos hok.wi (hok.gs (by omega)) hp
  unfold kW.wt
  omega
theorem X_thought {p i w : Int} (hd : 9 ≤ d) (hX : CX M W) (hok : OKW W) (h : ∀ M', FX M M' → CX M' W → Q (some (vI (aThought W p i w))) M') : Call d mX10_thought [vR 6, vI p, vI i, vI w] M Q := by
  obtain ⟨e, rfl⟩ := dd (d := d) (by omega)
  have hS := hX.shp
  have hn8 := hok.wi.1
  have h0 := h M (FX.refl hS) hX
  unfold aThought at h h0
  refine vx_thought (by omega) hS ⟨fun c => ?_, fun c => ⟨fun c2 => ?_, fun c2 => ?_⟩⟩
  · rw [i01, hX.np] at c
    rw [if_pos (by omega)] at h0
    exact h0
  · rw [i01, hX.np] at c
    rw [fP_n] at c2
    obtain ⟨q, rfl⟩ : ∃ q : Nat, p = (q : Int) := ⟨p.toNat, by omega⟩
    obtain ⟨r, rfl⟩ : ∃ r : Nat, i = (r : Int) := ⟨i.toNat, by omega⟩
    rw [if_neg (by omega), Int.toNat_natCast, Int.toNat_natCast] at h h0
    obtain ⟨b1, b2⟩ := hX.now.1 (by omega)
    have e1 : iv M 34 (4 * q + r) = W.s 1 (4 * q + r) := b1.w1 (f := 1) (by omega) (by omega)
    have e2 : iv M 35 (4 * q + r) = W.s 2 (4 * q + r) := b1.w1 (f := 2) (by omega) (by omega)
    have e3 : iv M 36 (4 * q + r) = W.s 3 (4 * q + r) := b1.w1 (f := 3) (by omega) (by omega)
    have e4 : iv M 37 (4 * q + r) = W.s 4 (4 * q + r) := b1.w1 (f := 4) (by omega) (by omega)
    rw [four (by omega) (by omega), atv_n (by omega), atv_n (by omega), atv_n (by omega), atv_n (by omega), e1, e2, e3, e4]
    refine ⟨fun c3 => ?_, fun c3 => ?_⟩
    · rw [if_neg c3] at h h0
      refine ⟨fun z => ?_, fun z => ?_, fun z => ?_, fun z => ?_, fun z => ?_, fun z => ?_⟩
      · rw [if_pos z] at h0; exact h0
      · rw [if_neg (by omega), if_pos z] at h0; exact h0
      · rw [if_neg (by omega), if_neg (by omega), if_pos z] at h0; exact h0
      · rw [if_neg (by omega), if_neg (by omega), if_neg (by omega), if_pos z] at h0; exact h0
      · rw [if_neg (by omega), if_neg (by omega), if_neg (by omega), if_neg (by omega), if_pos z] at h
        refine X_weighed (by omega) hX hok (by omega) (fun M2 x2 f2 a2 => ⟨rfl, x2.shp, ?_⟩)
        rw [atv_n (by omega)]
        have : iv M2 38 (4 * q + r) = massS W.I W.s (4 * q + r) := a2 5 (4 * q + r) (in32 (by omega) (by omega))
        rw [this]
        exact h M2 f2 x2
      · rw [if_neg (by omega), if_neg (by omega), if_neg (by omega), if_neg (by omega), if_neg (by omega)] at h0; exact h0
    · rw [if_pos (by omega)] at h0; exact h0
  · rw [fP_n] at c2
    rw [if_pos (by omega)] at h0
    exact h0
theorem X_person {p w : Int} (hd : 9 ≤ d) (hX : CX M W) (hok : OKW W) (hv : okPer W p w) (h : ∀ M', FX M M' → CX M' W → Q (some (vI (aPerson W p w))) M') : Call d mX10_person [vR 6, vI p, vI w] M Q := by
  obtain ⟨e, rfl⟩ := dd (d := d) (by omega)
  have hS := hX.shp
  have hn8 := hok.wi.1
  obtain ⟨v1, v2, v3, v4⟩ := hv
  have h0 := h M (FX.refl hS) hX
  unfold aPerson at h h0
  obtain ⟨q, rfl⟩ : ∃ q : Nat, p = (q : Int) := ⟨p.toNat, by omega⟩
  rw [Int.toNat_natCast] at h h0
  obtain ⟨b1, b2⟩ := hX.now.1 (by omega)
  refine vx_person (by omega) hS ?_
  rw [hX.np]
  refine ⟨fun c => absurd c (by rw [i01]; omega), fun _ => ⟨fun c => absurd c (by omega), fun _ => ⟨fun _ => ?_, fun c => absurd v4 c⟩⟩⟩
  refine ⟨fun z => ?_, fun z => ?_, fun z => ?_, fun z => ?_⟩
  · rw [if_pos z] at h0
    have e6 : iv M 39 q = W.s 6 q := b1.w6 (by omega)
    rw [atv_n (by omega), e6]; exact h0
  · rw [if_neg (by omega), if_pos z] at h0
    rw [atv_n (by omega), hX.ia.2.2.2.1 q (by omega)]; exact h0
  · rw [if_neg (by omega), if_neg (by omega), if_pos z] at h0
    rw [atv_n (by omega), hX.ia.2.2.2.2.1 q (by omega)]; exact h0
  · rw [if_neg (by omega), if_neg (by omega), if_neg (by omega)] at h
    refine X_weighed (by omega) hX hok (by omega) (fun M2 x2 f2 a2 => ⟨rfl, x2.shp, ?_⟩)
    refine X_weight (by omega) x2 hok a2 (by omega) ⟨_, rfl, x2.shp, ?_⟩
    have h := h M2 f2 x2
    have hw := W.wt_in hok (p := q) (by omega)
    refine ⟨fun c3 => ⟨fun c4 => ⟨hw, ?_⟩, fun c4 => ⟨hw, ?_⟩⟩, fun c3 => ?_⟩
    · rw [if_neg c3, if_neg c4] at h; exact h
    · rw [if_neg c3, if_pos (by omega)] at h; exact h
    · rw [if_pos (by omega)] at h; exact h
/-- a copy of the state now lies aside -/
theorem X_aside (hd : 2 ≤ d) (hX : CX M W) (hok : OKW W) (hn : 0 < W.I.np) (h : ∀ M', Fr (Sp 49) M M' → SB M' 49 W.s → Q none M') : Call d mX7_copyMinds [vR 49, vR 33] M Q := by
  obtain ⟨b1, b2⟩ := hX.now.1 hn
  exact t_copyMinds hd hX.shp (by decide) (by decide) (by decide) b1.sa (fun M' hf ha => h M' hf (ha.sb (fun _ _ => smS_n)))
/-- cells that what is gone through aside may change -/
def As (M : jM) (r : Nat) : Prop := (49 ≤ r ∧ r ≤ 55) ∨ r = 38 ∨ Wp M r
theorem As_o {M : jM} {r : Nat} (h : As M r) : Xo M r := by unfold As Wp at h; unfold Xo Wp; omega
theorem As_x {M : jM} {r : Nat} (h : As M r) : Xc M r := by unfold As Wp at h; unfold Xc Wp; omega
theorem As_sp {M : jM} {r : Nat} (h : Sp 49 r) : As M r := by unfold Sp at h; unfold As; omega
theorem CX.as {M' : jM} (hX : CX M W) (hok : OKW W) (hf : Fr (As M) M M') : CX M' W ∧ FX M M' := ⟨hX.obs hok hf (fun _ => As_o), FX.obs hf hX.shp (fun r hr => by have := As_o hr; unfold Xo Wp at this; unfold Xa Wp; omega)⟩
theorem As_w {M M1 M2 : jM} {a : Nat} (h : Fr (As M) M M1) (k : Fr (fun r => r = a + 5 ∨ Wp M1 r) M1 M2) (ha : a = 49) : Fr (As M) M M2 := by
  rw [Wp_eq h] at k
  exact h.trans (k.mono (fun r hr => by unfold As; unfold Wp at *; omega))
theorem X_behind {p n : Int} (hd : 9 ≤ d) (hX : CX M W) (hok : OKW W) (h : ∀ M', FX M M' → CX M' W → Q (some (vI (aBehind W p n))) M') : Call d mX10_behind [vR 6, vI p, vI n] M Q := by
  obtain ⟨e, rfl⟩ := dd (d := d) (by omega)
  have hS := hX.shp
  have hn8 := hok.wi.1
  have h09 := hok.h0
  have h0 := h M (FX.refl hS) hX
  unfold aBehind at h h0
  refine vx_behind (by omega) hS ⟨fun c => ?_, fun c => ⟨fun c2 => ?_, fun c2 => ⟨fun c3 => ?_, fun c3 => ?_⟩⟩⟩
  · rw [i01, hX.np] at c; rw [if_pos (by omega)] at h0; exact h0
  · rw [if_pos (by omega)] at h0; exact h0
  · rw [i01, hX.np] at c
    rw [if_neg (by omega)] at h
    obtain ⟨q, rfl⟩ : ∃ q : Nat, p = (q : Int) := ⟨p.toNat, by omega⟩
    obtain ⟨m, rfl⟩ : ∃ m : Nat, n = (m : Int) := ⟨n.toNat, by omega⟩
    rw [Int.toNat_natCast, Int.toNat_natCast] at h
    have gs := hok.gs (by omega)
    refine X_aside (by omega) hX hok (by omega) (fun M1 f1 b1 => ⟨rfl, f1.shp hS, ?_⟩)
    have s1 := f1.shp hS
    have g1 : Fr (As M) M M1 := f1.mono (fun r => As_sp)
    refine x_weigh (by omega) s1 (hX.ia.xc g1 (fun r => As_x)) hok.wi (by decide) b1 gs.1 (fun M2 f2 a2 => ⟨rfl, f2.shp s1, ?_⟩)
    refine up_to (R := fun i => ∀ M2, Fr (As M) M M2 → SA M2 49 (pW W.I (itF (pL W.I) i W.s)) → Run (e + 1) mX10_behind 47 [some (vR 6), some (vI (q : Int)), some (vI (m : Int)), some (vI (i : Int))] [] M2 Q) m ?_ ?_ M2 (As_w g1 f2 rfl) a2
    · intro M3 f3 a3
      obtain ⟨o1, o2⟩ := itL_ws (I := W.I) gs.1 m (by omega)
      refine vx_behind_47 (by omega) (f3.shp hS) ⟨fun _ => t_weight (by omega) (f3.shp hS) (by decide) a3 (WS_pW o1) (WM_pW hok.wi) (by omega) ⟨_, rfl, f3.shp hS, ?_⟩, fun c => absurd (Int.le_refl _) c⟩
      obtain ⟨q1, q2⟩ := hX.as hok f3
      exact h M3 q2 q1
    · intro i hi ih M3 f3 a3
      have s3 := f3.shp hS
      obtain ⟨o1, o2⟩ := itL_ws (I := W.I) gs.1 i (by omega)
      refine vx_behind_47 (by omega) s3 ⟨fun c => absurd c (by omega), fun _ => t_passHour (by omega) s3 (by decide) a3 (WS_pW o1) (fun M4 f4 a4 => ⟨rfl, f4.shp s3, ?_⟩)⟩
      have s4 := f4.shp s3
      have g4 : Fr (As M) M M4 := f3.trans (f4.mono (fun r => As_sp))
      refine x_weigh (by omega) s4 (hX.ia.xc g4 (fun r => As_x)) hok.wi (by decide) (s := pL W.I (itF (pL W.I) i W.s)) a4.sb0 (o1.pL (by omega)) (fun M5 f5 a5 => ⟨rfl, f5.shp s4, ?_⟩)
      rw [w32s (by omega)]
      exact ih M5 (As_w g4 f5 rfl) a5
  · rw [if_pos (by omega)] at h0; exact h0
theorem X_floatsIn {p : Int} (hd : 9 ≤ d) (hX : CX M W) (hok : OKW W) (h : ∀ M', FX M M' → CX M' W → Q (some (vI (aFloatsIn W p))) M') : Call d mX10_floatsIn [vR 6, vI p] M Q := by
  obtain ⟨e, rfl⟩ := dd (d := d) (by omega)
  have hS := hX.shp
  have hn8 := hok.wi.1
  have h09 := hok.h0
  have h0 := h M (FX.refl hS) hX
  unfold aFloatsIn at h h0
  refine vx_floatsIn (by omega) hS ⟨fun c => ?_, fun c => ?_⟩
  · rw [i01n, hX.np] at c
    rw [if_neg (by omega)] at h
    obtain ⟨q, rfl⟩ : ∃ q : Nat, p = (q : Int) := ⟨p.toNat, by omega⟩
    rw [Int.toNat_natCast] at h
    have gs := hok.gs (by omega)
    refine X_aside (by omega) hX hok (by omega) (fun M1 f1 b1 => ⟨rfl, f1.shp hS, ?_⟩)
    have g1 : Fr (As M) M M1 := f1.mono (fun r => As_sp)
    refine up_to (R := fun i => ∀ M2, Fr (As M) M M2 → SB M2 49 (itF (pL W.I) i W.s) → (∀ M', FX M M' → CX M' W → Q (some (vI (fstF (fun n => flS (pW W.I (itF (pL W.I) n W.s)) q) (100 - i) i))) M') → Run (e + 1) mX10_floatsIn 26 [some (vR 6), some (vI (q : Int)), some (vI (i : Int))] [] M2 Q) 100 ?_ ?_ M1 g1 b1 h
    · intro M2 f2 _ h
      obtain ⟨q1, q2⟩ := hX.as hok f2
      exact vx_floatsIn_26 (by omega) (f2.shp hS) ⟨fun _ => h M2 q2 q1, fun c => absurd (by decide) c⟩
    · intro i hi ih M2 f2 b2 h
      have s2 := f2.shp hS
      obtain ⟨o1, o2⟩ := itL_ws (I := W.I) gs.1 i (by omega)
      rw [show 100 - i = (100 - (i + 1)) + 1 by omega] at h
      simp only [fstF] at h
      refine vx_floatsIn_26 (by omega) s2 ⟨fun c => absurd c (by omega), fun _ => x_weigh (by omega) s2 (hX.ia.xc f2 (fun r => As_x)) hok.wi (by decide) b2 o1 (fun M3 f3 a3 => ⟨rfl, f3.shp s2, ?_⟩)⟩
      have s3 := f3.shp s2
      have g3 := As_w f2 f3 rfl
      refine t_floats (by omega) s3 (by decide) a3 (WS_pW o1) (WM_pW hok.wi) (by omega) ⟨_, rfl, s3, ?_⟩
      by_cases c3 : flS (pW W.I (itF (pL W.I) i W.s)) q = true
      · rw [if_pos c3] at h ⊢
        obtain ⟨q1, q2⟩ := hX.as hok g3
        exact ⟨fun z => absurd z (by decide), fun _ => h M3 q2 q1⟩
      · rw [if_neg c3] at h ⊢
        refine ⟨fun _ => t_passHour (by omega) s3 (by decide) a3 (WS_pW o1) (fun M4 f4 a4 => ⟨rfl, f4.shp s3, ?_⟩), fun z => absurd rfl z⟩
        rw [w32s (by omega)]
        exact ih M4 (g3.trans (f4.mono (fun r => As_sp))) a4.sb0 h
  · rw [i01n, hX.np] at c; rw [if_pos (by omega)] at h0; exact h0
theorem X_shares {p c : Int} (hd : 9 ≤ d) (hX : CX M W) (hok : OKW W) (h : ∀ M', FX M M' → CX M' W → Q (some (vI (aShares W p c))) M') : Call d mX10_shares [vR 6, vI p, vI c] M Q := by
  obtain ⟨e, rfl⟩ := dd (d := d) (by omega)
  have hS := hX.shp
  have hn8 := hok.wi.1
  have h0 := h M (FX.refl hS) hX
  unfold aShares at h h0
  refine vx_shares (by omega) hS ⟨fun c1 => ?_, fun c1 => ⟨fun c2 => ?_, fun c2 => ⟨fun c3 => ?_, fun c3 => ?_⟩⟩⟩
  · rw [i01, hX.np] at c1; rw [if_pos (by omega)] at h0; exact h0
  · rw [if_pos (by omega)] at h0; exact h0
  · rw [i01, hX.np] at c1
    rw [if_neg (by omega)] at h
    obtain ⟨q, rfl⟩ : ∃ q : Nat, p = (q : Int) := ⟨p.toNat, by omega⟩
    rw [Int.toNat_natCast] at h
    refine X_weighed (by omega) hX hok (by omega) (fun M1 x1 f1 a1 => ⟨rfl, x1.shp, ?_⟩)
    have s1 := x1.shp
    refine up_to (R := fun i => ∀ l6, Run (e + 1) mX10_shares 40 [some (vR 6), some (vI (q : Int)), some (vI c), some (vL (sumF (fun q => fT (W.wt q)) i)), none, some (vI (i : Int)), l6] [] M1 Q) W.I.np ?_ ?_ _
    · intro l6
      refine vx_shares_40 (by omega) s1 ⟨fun _ => X_weight (by omega) x1 hok a1 (by omega) ⟨_, rfl, s1, ?_⟩, fun z => absurd z (by rw [x1.np]; omega)⟩
      have hw := W.wt_in hok (p := q) (by omega)
      have t1 := fT_in (v := W.wt q)
      have t2 := fT_pos hw.1
      obtain ⟨g1, g2⟩ := sumF_ge (f := fun q => fT (W.wt q)) W.I.np (fun j _ => fT_in.1)
      have g3 := g2 q (by omega)
      have g4 := sumF_fT (f := W.wt) W.I.np
      have g3' : fT (W.wt q) ≤ sumF (fun q => fT (W.wt q)) W.I.np := g3
      have hc0 : 0 ≤ c * fT (W.wt q) := Int.mul_nonneg (by omega) t1.1
      have hc1 : c * fT (W.wt q) ≤ 999 * 2147483647 := Int.mul_le_mul (by omega) t1.2 t1.1 (by omega)
      have hc2 : c * fT (W.wt q) ≤ c * sumF (fun q => fT (W.wt q)) W.I.np := Int.mul_le_mul_of_nonneg_left g3' (by omega)
      have hd0 : 0 ≤ c * fT (W.wt q) / sumF (fun q => fT (W.wt q)) W.I.np := Int.ediv_nonneg hc0 g1
      have hd1 : c * fT (W.wt q) / sumF (fun q => fT (W.wt q)) W.I.np ≤ c := Int.ediv_le_of_le_mul (by omega) hc2
      refine ⟨fun _ => ⟨by omega, ?_⟩, fun z => absurd (fun q => by rw [jcmp_eq] at q; omega) z⟩
      rw [w64_i (by omega) (by omega), jdivL_eq ⟨by omega, by omega⟩ ⟨by omega, by omega⟩, w32_i (by omega) (by omega)]
      exact h M1 f1 x1
    · intro i hi ih l6
      have g4 := sumF_fT (f := W.wt) i
      obtain ⟨g1, _⟩ := sumF_ge (f := fun q => fT (W.wt q)) i (fun j _ => fT_in.1)
      have t1 := fT_in (v := W.wt i)
      refine vx_shares_40 (by omega) s1 ⟨fun z => absurd z (by rw [x1.np]; omega), fun _ => X_weight (by omega) x1 hok a1 hi ⟨_, rfl, s1, ?_⟩⟩
      rw [w64_i (by omega) (by omega), w32s (by omega)]
      exact ih l6
  · rw [if_pos (by omega)] at h0; exact h0
end Looks2X
