/-! load, together, goings: of both -/
def kW.br (W : kW) (s : Nat) : Bool := decide (loF (tbI (s : Int)) W.wt W.I.np ≤ 1000000 * W.I.br)
def tgF (b : Nat → Bool) : Nat → Nat
  | 0 => 0
  | i + 1 => if bcF (tgF b i : Nat) < bcF ((i + 1 : Nat) : Int) ∧ b (i + 1) = true then i + 1 else tgF b i
theorem tgF_s {b : Nat → Bool} {i : Nat} : tgF b (i + 1) = if bcF (tgF b i : Nat) < bcF ((i + 1 : Nat) : Int) ∧ b (i + 1) = true then i + 1 else tgF b i := rfl
theorem tgF_le {b : Nat → Bool} : ∀ n, tgF b n ≤ n
  | 0 => Nat.le_refl 0
  | n + 1 => by have := tgF_le (b := b) n; rw [tgF_s]; split <;> omega
def aLoad (W : kW) (sm : Int) : Int := if W.I.np = 0 ∨ sm < 0 ∨ ((2 ^ W.I.np : Nat) : Int) ≤ sm then -1 else fT (loF (tbI sm) W.wt W.I.np)
def aTog (W : kW) : Int := if W.I.np = 0 then -1 else (tgF W.br (2 ^ W.I.np - 1) : Nat)
def allB (W : kW) : Bool := (List.range W.I.np).all (fun i => W.br (2 ^ i))
theorem allB_t {W : kW} : allB W = true ↔ ∀ i, i < W.I.np → W.br (2 ^ i) = true := by
  unfold allB
  rw [List.all_eq_true]
  exact ⟨fun h i hi => h i (List.mem_range.mpr hi), fun h i hi => h i (List.mem_range.mp hi)⟩
def aGoings (W : kW) : Int := if W.I.np = 0 then -1 else if allB W = true then gB W.br 8 (2 ^ W.I.np - 1) else -1
theorem kW.wt17 {W : kW} (hok : OKW W) {p : Nat} (hp : p < W.I.np) : 0 ≤ W.wt p ∧ W.wt p ≤ 17179869184 := by
  have h8 := hok.wi.1
  exact wtS_17 (hok.gs (by omega)).1 hok.wi (by omega)
theorem gB_in {b : Nat → Bool} {i : Int} (hi : 0 ≤ i) : ∀ x, x < 256 → 0 ≤ gB b i x ∧ gB b i x ≤ i := by
  intro x
  induction x using Nat.strongRecOn with
  | ind x ih =>
    intro hx
    by_cases h0 : x = 0
    · subst h0; rw [gV_0]; omega
    · have e := gV_s (b := b) (i := i) h0 hx
      obtain ⟨c1, c2, c3⟩ := flM_le (b := b) (f := gB b i) (a := x) (pthM x 256 x) i
      rw [← e] at c1 c2 c3
      refine ⟨?_, c1⟩
      rcases c3 with z | ⟨s, s1, s2, s3⟩
      · omega
      · have k := (okM_s hx s1).2.2.1
        have := ih _ k (by omega)
        omega
section CrossX
variable {d : Nat} {M : jM} {Q : Option jV → jM → Prop} {W : kW}
def Br (M : jM) (n : Nat) (w : Nat → Int) : Prop := iv M 405 1 = (n : Int) ∧ ∀ p, p < n → lg M 406 p = w p
theorem X_stand (hd : 9 ≤ d) (hX : CX M W) (hok : OKW W) (hn : 0 < W.I.np) (h : ∀ M', CX M' W → FX M M' → Br M' W.I.np W.wt → Q none M') : Call d mX10_allStandAtTheBridge [vR 6] M Q := by
  obtain ⟨e, rfl⟩ := dd (d := d) (by omega)
  have hS := hX.shp
  have hn8 := hok.wi.1
  refine vx_allStandAtTheBridge (by omega) hS (X_weighed (by omega) hX hok hn (fun M1 x1 f1 a1 => ⟨rfl, x1.shp, ?_⟩))
  obtain ⟨e', rfl⟩ := dd (d := e) (by omega)
  refine vb_stand (by omega) x1.shp (fun N hN sN => ?_)
  rw [x1.np] at hN ⊢
  have fN : Fr (fun r => r = 405 ∨ r = 406) M1 N := by rw [hN]; exact fr_si (Or.inl rfl)
  have e405 : iv N 405 1 = W.I.np := by rw [hN, iv_si, if_pos ⟨rfl, rfl⟩]; split <;> omega
  refine up_to (R := fun i => ∀ M2, Fr (fun r => r = 405 ∨ r = 406) M1 M2 → iv M2 405 1 = W.I.np → (∀ p, p < i → lg M2 406 p = W.wt p) → Run (e' + 1) mX0_stand 18 [some (vR 405), some (vR 33), some (vI (W.I.np : Int)), some (vI (i : Int))] [] M2 _) W.I.np ?_ ?_ N fN e405 (fun p hp => by omega)
  · intro M2 f2 k2 hx
    refine vb_stand_18 (by omega) (f2.shp x1.shp) ⟨fun _ => ⟨rfl, f2.shp x1.shp, ?_⟩, fun c => absurd (by rw [k2]; omega) c⟩
    refine h M2 (x1.obs hok f2 (fun r hr => by unfold Xo; omega)) ?_ ⟨k2, hx⟩
    obtain ⟨q1, q2, q3, q4, q5, q6⟩ := f1
    exact ⟨f2.shp x1.shp, fun r hr => by
      obtain ⟨z1, z2, z3⟩ := q2 r hr
      exact ⟨by rw [f2.eiv (by omega), z1], by rw [f2.elg (by omega), z2], by rw [f2.ekd, z3]⟩, by rw [f2.emx]; exact q3, by rw [f2.emx]; exact q4, by rw [f2.ems]; exact q5, by rw [f2.ems]; exact q6⟩
  · intro i hi ih M2 f2 k2 hx
    have s2 := f2.shp x1.shp
    refine vb_stand_18 (by omega) s2 ⟨fun c => absurd c (by rw [k2]; omega), fun _ => t_weight (by omega) s2 (by decide) (a1.fr f2 (fun k hk => by omega)) (WS_pW (hok.gs hn).1) (WM_pW hok.wi) (by omega) ⟨_, rfl, s2, fun N hN sN => ?_⟩⟩
    rw [w32s (by omega)]
    refine ih N (by rw [hN]; exact f2.pvl (Or.inr rfl)) (by rw [hN, iv_ptl]; exact k2) (fun p hp => ?_)
    rw [hN, lg_ptl]
    by_cases c : p = i
    · rw [if_pos ⟨rfl, by omega, by omega⟩, c]; rfl
    · rw [if_neg (by omega)]; exact hx p (by omega)
theorem x_loadOf {sm : Int} {w : Nat → Int} {n : Nat} (hd : 5 ≤ d) (hS : Shp M) (hB : Br M n w) (hn : n ≤ 8) (hw : ∀ p, p < n → 0 ≤ w p ∧ w p ≤ 17179869184) (h : Q (some (vL (loF (tbI sm) w n))) M) : Call d mX0_loadOf [vR 405, vI sm] M Q := by
  obtain ⟨e, rfl⟩ := dd (d := d) (by omega)
  obtain ⟨h1, h2⟩ := hB
  refine vb_loadOf (by omega) hS ?_
  refine up_to (R := fun i => Run (e + 1) mX0_loadOf 5 [some (vR 405), some (vI sm), some (vL (loF (tbI sm) w i)), none, some (vI (i : Int))] [] M Q) n ?_ ?_
  · exact vb_loadOf_5 (by omega) hS ⟨fun _ => h, fun c => absurd (by omega) c⟩
  · intro i hi ih
    have hb := loF_in (c := tbI sm) (w := w) i (by omega) (fun j hj => hw j (by omega))
    have hwi := hw i hi
    simp only [loF] at ih
    refine vb_loadOf_5 (by omega) hS ⟨fun c => absurd c (by omega), fun _ => ⟨fun c => ?_, fun c => ?_⟩⟩
    · rw [if_neg (by unfold tbI; simpa using c)] at ih
      rw [w32s (by omega)]
      exact ih
    · rw [if_pos (by unfold tbI; simpa using c)] at ih
      have ea : atl M 8 406 (i : Int) = w i := by unfold atl; rw [if_pos ⟨by omega, by omega⟩, Int.toNat_natCast]; exact h2 i hi
      rw [ea, w64_i (by omega) (by omega), w32s (by omega)]
      exact ⟨⟨by omega, by omega⟩, ih⟩
theorem X_bears {s : Nat} (hd : 6 ≤ d) (hX : CX M W) (hok : OKW W) (hB : Br M W.I.np W.wt) (h : Q (some (vI (if W.br s = true then 1 else 0))) M) : Call d mX0_bears [vR 405, vI W.I.br, vI (s : Int)] M Q := by
  obtain ⟨e, rfl⟩ := dd (d := d) (by omega)
  have hbr := hok.wi.2.2.2.2
  refine vb_bears (by omega) hX.shp (x_loadOf (by omega) hX.shp hB hok.wi.1 (fun p hp => kW.wt17 hok hp) ⟨_, rfl, hX.shp, ?_⟩)
  rw [w64_i (by omega) (by omega)]
  refine (congrArg (fun z => Q (some (vI z)) M) ?_).mp h
  unfold kW.br
  simp only [jcmp_pos, decide_eq_true_eq]
  split <;> split <;> first | rfl | omega
theorem X_load {sm : Int} (hd : 11 ≤ d) (hX : CX M W) (hok : OKW W) (h : ∀ M', FX M M' → CX M' W → Q (some (vI (aLoad W sm))) M') : Call d mX10_load [vR 6, vI sm] M Q := by
  obtain ⟨e, rfl⟩ := dd (d := d) (by omega)
  have hS := hX.shp
  obtain ⟨k1, k2, k3⟩ := jshl_1 hok.wi.1
  have h0 := h M (FX.refl hS) hX
  unfold aLoad at h h0
  refine vx_load (by omega) hS ?_
  rw [hX.np, k1]
  refine ⟨fun c => ?_, fun c => ⟨fun c2 => ?_, fun c2 => ⟨fun c3 => ?_, fun c3 => ?_⟩⟩⟩
  · rw [i01] at c; rw [if_pos (by omega)] at h0; exact h0
  · rw [if_pos (by omega)] at h0; exact h0
  · rw [i01] at c
    rw [if_neg (by omega)] at h
    refine X_stand (by omega) hX hok (by omega) (fun M1 x1 f1 b1 => ⟨rfl, x1.shp, ?_⟩)
    exact x_loadOf (by omega) x1.shp b1 hok.wi.1 (fun p hp => kW.wt17 hok hp) ⟨_, rfl, x1.shp, h M1 f1 x1⟩
  · rw [if_pos (by omega)] at h0; exact h0
theorem X_together (hd : 11 ≤ d) (hX : CX M W) (hok : OKW W) (h : ∀ M', FX M M' → CX M' W → Q (some (vI (aTog W))) M') : Call d mX10_together [vR 6] M Q := by
  obtain ⟨e, rfl⟩ := dd (d := d) (by omega)
  have hS := hX.shp
  obtain ⟨k1, k2, k3⟩ := jshl_1 hok.wi.1
  have h0 := h M (FX.refl hS) hX
  unfold aTog at h h0
  refine vx_together (by omega) hS ?_
  rw [hX.np]
  refine ⟨fun c => ?_, fun c => ?_⟩
  · rw [i01n] at c
    rw [if_neg (by omega)] at h
    refine X_stand (by omega) hX hok (by omega) (fun M1 x1 f1 b1 => ⟨rfl, x1.shp, ?_⟩)
    have s1 := x1.shp
    have h := h M1 f1 x1
    rw [x1.ia.2.2.1]
    obtain ⟨e', rfl⟩ := dd (d := e) (by omega)
    refine vb_most (by omega) s1 ?_
    refine up_to (R := fun i => Run (e' + 1) mX0_mostAtOnce 4 [some (vR 405), some (vI W.I.br), some (vI (tgF W.br i : Nat)), some (vI ((i + 1 : Nat) : Int))] [] M1 _) (2 ^ W.I.np - 1) ?_ ?_
    · refine vb_most_4 (by omega) s1 ?_
      rw [b1.1, k1]
      exact ⟨fun _ => ⟨_, rfl, s1, h⟩, fun c => absurd (by omega) c⟩
    · intro i hi ih
      have tl := tgF_le (b := W.br) i
      rw [tgF_s] at ih
      refine vb_most_4 (by omega) s1 ?_
      rw [b1.1, k1]
      refine ⟨fun c => absurd c (by omega), fun _ => d_bitCount (by omega) ⟨_, rfl, s1, d_bitCount (by omega) ⟨_, rfl, s1, fun c => ?_, fun c => X_bears (by omega) x1 hok b1 ⟨_, rfl, s1, fun c2 => ?_, fun c2 => ?_⟩⟩⟩⟩
      · rw [if_neg (by omega)] at ih
        rw [w32s (by omega)]
        exact ih
      · rw [i01] at c2
        rw [if_neg (fun z => c2 z.2)] at ih
        rw [w32s (by omega)]
        exact ih
      · rw [i01, Classical.not_not] at c2
        rw [if_pos ⟨by omega, c2⟩] at ih
        rw [w32s (by omega)]
        exact ih
  · rw [i01n] at c
    rw [if_pos (by omega)] at h0; exact h0
theorem nxM_j {a s : Nat} (ha : a < 256) (hs : 0 < s ∧ s < 2147483648) : jand (w32 ((s : Int) - 1)) (a : Int) = (nxM a s : Nat) := by
  rw [w32_i (by omega) (by omega), show (s : Int) - 1 = ((s - 1 : Nat) : Int) by omega, jand_nat ⟨by omega, by omega⟩ ⟨by omega, by omega⟩]
  rfl
theorem nxM_le {a s : Nat} : nxM a s ≤ a := Nat.and_le_right
theorem X_fewestFor {a : Nat} {b : Nat → Bool} (hd : 5 ≤ d) (hS : Shp M) (ha : a ≠ 0 ∧ a < 256) (hb : ∀ s, 1 ≤ s → s ≤ a → iv M 407 s = if b s = true then 1 else 0) (hf : ∀ x, x < a → iv M 408 x = gB b 8 x) (h : Q (some (vI (gB b 8 a))) M) : Call d mX0_fewestFor [vR 405, vI (a : Int)] M Q := by
  obtain ⟨e, rfl⟩ := dd (d := d) (by omega)
  refine vb_fewestFor (by omega) hS ?_
  rw [gV_s ha.1 ha.2] at h
  have key : ∀ (k s : Nat) (best : Int), k ≤ 256 → s ≤ a → 0 ≤ best → best ≤ 8 → (∀ x ∈ pthM a k s, x ∈ pthM a 256 a) → Q (some (vI (flM b (gB b 8) a (pthM a k s) best))) M → Run (e + 1) mX0_fewestFor 10 [some (vR 405), some (vI (a : Int)), some (vI best), some (vI (s : Int)), some (vI (k : Int))] [] M Q := by
    intro k
    induction k with
    | zero =>
      intro s best _ _ _ _ _ h
      exact vb_fewestFor_10 (by omega) hS ⟨fun _ => h, fun c => absurd (Int.le_refl _) c⟩
    | succ k ih =>
      intro s best hk hs b0 b8 hsub h
      refine vb_fewestFor_10 (by omega) hS ⟨fun c => absurd c (by omega), fun _ => ⟨fun c => ?_, fun c => ?_⟩⟩
      · obtain rfl : s = 0 := by omega
        exact h
      · have hs0 : s ≠ 0 := by omega
        have hp : pthM a (k + 1) s = s :: pthM a k (nxM a s) := if_neg hs0
        rw [hp] at h hsub
        have hm := hsub s List.mem_cons_self
        obtain ⟨m1, m2, m3, m4⟩ := okM_s ha.2 hm
        have hsub2 : ∀ x ∈ pthM a k (nxM a s), x ∈ pthM a 256 a := fun x hx => hsub x (List.mem_cons_of_mem _ hx)
        have hx : jxor (a : Int) (s : Int) = ((a ^^^ s : Nat) : Int) := by rw [jxor_nat ⟨by omega, by omega⟩ ⟨by omega, by omega⟩]; rfl
        have g := gB_in (b := b) (i := 8) (by omega) (a ^^^ s) (by omega)
        rw [nxM_j ha.2 ⟨by omega, by omega⟩, hx, atv_n (by omega), hf _ m3, Int.toNat_natCast, hb s (by omega) m2, show w32 (((k + 1 : Nat) : Int) + -1) = (k : Int) by rw [w32_i (by omega) (by omega)]; omega, w32_i (z := gB b 8 (a ^^^ s) + 1) (by omega) (by omega)]
        have hst : flM b (gB b 8) a (s :: pthM a k (nxM a s)) best = flM b (gB b 8) a (pthM a k (nxM a s)) (stM b (gB b 8) a best s) := rfl
        rw [hst] at h
        refine ⟨fun c => absurd c (by omega), fun _ => ⟨by omega, fun c2 => ?_, fun c2 => ⟨fun c3 => ?_, fun c3 => ?_⟩⟩⟩
        · rw [i01] at c2
          rw [show stM b (gB b 8) a best s = best from if_neg (fun z => c2 z.1)] at h
          exact ih _ _ (by omega) nxM_le b0 b8 hsub2 h
        · rw [show stM b (gB b 8) a best s = best from if_neg (fun z => by have := z.2; omega)] at h
          exact ih _ _ (by omega) nxM_le b0 b8 hsub2 h
        · rw [i01, Classical.not_not] at c2
          rw [show stM b (gB b 8) a best s = gB b 8 (a ^^^ s) + 1 from if_pos ⟨c2, by omega⟩] at h
          exact ih _ _ (by omega) nxM_le (by omega) (by omega) hsub2 h
  exact key 256 a 8 (by omega) (Nat.le_refl _) (by omega) (by omega) (fun x hx => hx) h
theorem FX.fr {P : Nat → Prop} {M1 M2 : jM} (h : FX M M1) (hf : Fr P M1 M2) (hp : ∀ r, P r → 5 < r ∧ (r < 468 ∨ 500 ≤ r)) : FX M M2 := by
  obtain ⟨q1, q2, q3, q4, q5, q6⟩ := h
  exact ⟨hf.shp q1, fun r hr => by
    obtain ⟨z1, z2, z3⟩ := q2 r hr
    have : ¬ P r := fun z => by have := hp r z; omega
    exact ⟨by rw [hf.eiv this, z1], by rw [hf.elg this, z2], by rw [hf.ekd, z3]⟩, by rw [hf.emx]; exact q3, by rw [hf.emx]; exact q4, by rw [hf.ems]; exact q5, by rw [hf.ems]; exact q6⟩
theorem X_goings (hd : 11 ≤ d) (hX : CX M W) (hok : OKW W) (h : ∀ M', FX M M' → CX M' W → Q (some (vI (aGoings W))) M') : Call d mX10_goings [vR 6] M Q := by
  obtain ⟨e, rfl⟩ := dd (d := d) (by omega)
  have hS := hX.shp
  obtain ⟨k1, k2, k3⟩ := jshl_1 hok.wi.1
  have hn8 := hok.wi.1
  have h0 := h M (FX.refl hS) hX
  unfold aGoings at h h0
  refine vx_goings (by omega) hS ?_
  rw [hX.np]
  refine ⟨fun c => ?_, fun c => ?_⟩
  · rw [i01n] at c
    rw [if_neg (by omega)] at h
    refine X_stand (by omega) hX hok (by omega) (fun M1 x1 f1 b1 => ⟨rfl, x1.shp, ?_⟩)
    have s1 := x1.shp
    rw [x1.ia.2.2.1]
    obtain ⟨e', rfl⟩ := dd (d := e) (by omega)
    refine vb_goings (by omega) s1 ?_
    refine up_to (R := fun i => ∀ l3, (∀ j, j < i → W.br (2 ^ j) = true) → Run (e' + 1) mX0_fewestGoings 2 [some (vR 405), some (vI W.I.br), some (vI (i : Int)), l3] [] M1 _) W.I.np ?_ ?_ _ (fun j hj => by omega)
    · intro l3 hall
      rw [if_pos (allB_t.mpr hall)] at h
      refine vb_goings_2 (by omega) s1 ?_
      rw [b1.1, k1]
      refine ⟨fun _ => ?_, fun c => absurd (Int.le_refl _) c⟩
      -- who is borne
      refine up_to (R := fun i => ∀ M2, Fr (fun r => r = 407) M1 M2 → (∀ s, 1 ≤ s → s ≤ i → iv M2 407 s = if W.br s = true then 1 else 0) → Run (e' + 1) mX0_fewestGoings 38 [some (vR 405), some (vI W.I.br), some (vI ((2 ^ W.I.np : Nat) : Int)), some (vI ((i + 1 : Nat) : Int))] [] M2 _) (2 ^ W.I.np - 1) ?_ ?_ M1 Fr.refl (fun s hs1 hs2 => by omega)
      · intro M2 f2 hb
        have s2 := f2.shp s1
        -- the fewest
        have tail : ∀ N : jM, N = ptv M2 256 408 0 0 → Shp N → Run (e' + 1) mX0_fewestGoings 81 [some (vR 405), some (vI W.I.br), some (vI ((2 ^ W.I.np : Nat) : Int)), some (vI 1)] [] N (fun r10 M8 => ∃ z7 : Int, r10 = some (vI z7) ∧ Shp M8 ∧ Q (some (vI z7)) M8) := by
          intro N hN sN
          have fN : Fr (fun r => r = 407 ∨ r = 408) M1 N := by rw [hN]; exact (f2.mono (fun r hr => Or.inl hr)).pv (Or.inr rfl)
          have hbN : ∀ s, 1 ≤ s → s ≤ 2 ^ W.I.np - 1 → iv N 407 s = if W.br s = true then 1 else 0 := by
            intro s h1 h2
            rw [hN, iv_ptv, if_neg (by omega)]
            exact hb s h1 h2
          have h0N : iv N 408 0 = gB W.br 8 0 := by rw [hN, iv_ptv, if_pos ⟨rfl, rfl, by omega⟩, gV_0]
          refine up_to (R := fun i => ∀ M3, Fr (fun r => r = 407 ∨ r = 408) M1 M3 → (∀ s, 1 ≤ s → s ≤ 2 ^ W.I.np - 1 → iv M3 407 s = if W.br s = true then 1 else 0) → (∀ x, x < i + 1 → iv M3 408 x = gB W.br 8 x) → Run (e' + 1) mX0_fewestGoings 81 [some (vR 405), some (vI W.I.br), some (vI ((2 ^ W.I.np : Nat) : Int)), some (vI ((i + 1 : Nat) : Int))] [] M3 (fun r10 M8 => ∃ z7 : Int, r10 = some (vI z7) ∧ Shp M8 ∧ Q (some (vI z7)) M8)) (2 ^ W.I.np - 1) ?_ ?_ N fN hbN (fun x hx => by rw [show x = 0 by omega]; exact h0N)
          · intro M3 f3 hb3 hf3
            refine vb_goings_81 (by omega) (f3.shp s1) ⟨fun _ => ⟨_, rfl, f3.shp s1, ?_⟩, fun c => absurd (by omega) c⟩
            rw [w32_i (by omega) (by omega), show ((2 ^ W.I.np : Nat) : Int) - 1 = ((2 ^ W.I.np - 1 : Nat) : Int) by omega, atv_n (by omega), hf3 _ (by omega)]
            exact h M3 (f1.fr f3 (fun r hr => by omega)) (x1.obs hok f3 (fun r hr => by unfold Xo; omega))
          · intro i hi ih M3 f3 hb3 hf3
            have s3 := f3.shp s1
            refine vb_goings_81 (by omega) s3 ⟨fun c => absurd c (by omega), fun _ => X_fewestFor (by omega) s3 ⟨by omega, by omega⟩ (fun s h1 h2 => hb3 s h1 (by omega)) (fun x hx => hf3 x hx) ⟨_, rfl, s3, fun N2 hN2 sN2 => ?_⟩⟩
            rw [w32s (by omega)]
            refine ih N2 (by rw [hN2]; exact f3.pv (Or.inr rfl)) (fun s h1 h2 => by rw [hN2, iv_ptv, if_neg (by omega)]; exact hb3 s h1 h2) (fun x hx => ?_)
            rw [hN2, iv_ptv]
            by_cases c2 : x = i + 1
            · rw [if_pos ⟨rfl, by omega, by omega⟩, c2]
            · rw [if_neg (by omega)]; exact hf3 x (by omega)
        exact vb_goings_38 (by omega) s2 ⟨fun _ N hN sN => tail N hN sN, fun c => absurd (by omega) c⟩
      · intro i hi ih M2 f2 hb
        have s2 := f2.shp s1
        have x2 : CX M2 W := x1.obs hok f2 (fun r hr => by unfold Xo; omega)
        have b2 : Br M2 W.I.np W.wt := ⟨by rw [f2.eiv (by omega)]; exact b1.1, fun p hp => by rw [f2.elg (by omega)]; exact b1.2 p hp⟩
        refine vb_goings_38 (by omega) s2 ⟨fun c => absurd c (by omega), fun _ => ⟨fun c => absurd c (by omega), fun _ => X_bears (by omega) x2 hok b2 ⟨_, rfl, s2, ⟨⟨by omega, by omega⟩, by split <;> simp⟩, fun N hN sN => ?_⟩⟩⟩
        rw [w32s (by omega)]
        refine ih N (by rw [hN]; exact f2.ps rfl) (fun s h1 h2 => ?_)
        rw [hN, iv_si, Int.toNat_natCast]
        by_cases c2 : s = i + 1
        · rw [if_pos ⟨rfl, c2⟩, c2]
        · rw [if_neg (by omega)]; exact hb s h1 (by omega)
    · intro i hi ih l3 hj
      obtain ⟨j1, j2, j3⟩ := jshl_1 (n := i) (by omega)
      refine vb_goings_2 (by omega) s1 ⟨fun c => absurd c (by rw [b1.1]; omega), fun _ => ?_⟩
      rw [j1]
      refine X_bears (by omega) x1 hok b1 ⟨_, rfl, s1, fun c2 => ?_, fun c2 => ?_⟩
      · rw [i01n] at c2
        rw [w32s (by omega)]
        exact ih _ (fun j hj2 => by
          by_cases z : j = i
          · rw [z]; exact c2
          · exact hj j (by omega))
      · rw [i01n] at c2
        rw [if_neg (fun z => c2 (allB_t.mp z i hi))] at h
        exact ⟨_, rfl, s1, h M1 f1 x1⟩
  · rw [i01n] at c
    rw [if_pos (by omega)] at h0; exact h0
end CrossX
