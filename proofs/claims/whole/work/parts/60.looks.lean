/-! what is looked at: simple ones, of both -/
def aRule (W : kW) (w : Int) : Int := if W.I.np = 0 then -1 else if w = 0 then W.s 0 7 else if w = 1 then W.I.gr else if w = 2 then W.I.br else if w = 3 then W.s 0 8 else -1
def aGoes (W : kW) (p k : Int) : Int := if ¬ (0 ≤ p ∧ p < W.I.np) ∨ ¬ (0 ≤ k ∧ k < 3) then -1 else fG (W.I.mi p.toNat) k
def aStatus (W : kW) (w : Int) : Int := if 0 ≤ w ∧ w ≤ 4 then W.rf w.toNat else -1
def aCount (W : kW) (w : Int) : Int := if w = 0 then W.I.np else if w = 1 then W.lc else if w = 2 then W.tl else if w = 3 then W.lh else if w = 4 then W.s 0 9 else if w = 5 then W.me else if w = 6 then W.nn else if w = 7 then hl W.s else if w = 8 then W.K else -1000000
def aLog (W : kW) (i w : Int) : Int := if 0 ≤ i ∧ i < hl W.s ∧ 0 ≤ w ∧ w ≤ 2 then W.s 7 ((W.s 0 9 - i) % 60).toNat / ((2 ^ (8 * w.toNat) : Nat) : Int) % 256 else -1
def wMemory (W : kW) (v : Int) : Int × kW := if v < 0 ∨ 9 < v ∨ v = W.me then (0, W) else (1, W.setMe v)
theorem okMemory {W : kW} {v : Int} (h : OKW W) : OKW (wMemory W v).2 := by
  unfold wMemory
  split
  · exact h
  · obtain ⟨h1, h2, h3, h4, h5, h6, h7, h8, h9, h10, h11⟩ := h
    exact ⟨h1, h2, h3, h4, h5, h6, h7, h8, ⟨by show 0 ≤ v; omega, by show v ≤ 9; omega⟩, h10, h11⟩
theorem FX.refl {M : jM} (hS : Shp M) : FX M M := FX.obs (P := fun _ => False) Fr.refl hS (fun _ z => z.elim)
section LooksX
variable {d : Nat} {M : jM} {Q : Option jV → jM → Prop} {W : kW}
theorem X_rule {w : Int} (hd : 6 ≤ d) (hX : CX M W) (hok : OKW W) (h : ∀ M', FX M M' → CX M' W → Q (some (vI (aRule W w))) M') : Call d mX10_rule [vR 6, vI w] M Q := by
  obtain ⟨e, rfl⟩ := dd (d := d) (by omega)
  have hS := hX.shp
  have h := h M (FX.refl hS) hX
  unfold aRule at h
  refine vx_rule (by omega) hS ⟨fun c => ?_, fun c => ?_⟩
  · rw [i01n, hX.np] at c
    rw [if_neg (by omega)] at h
    obtain ⟨b1, b2⟩ := hX.now.1 (by omega)
    refine ⟨fun z => ?_, fun z => ?_, fun z => ?_, fun z => ?_, fun z => ?_⟩
    · rw [if_pos z] at h; rw [b1.w0 (i := 7) ⟨by omega, by omega⟩]; exact h
    · rw [if_neg (by omega), if_pos z] at h; rw [hX.ia.2.1]; exact h
    · rw [if_neg (by omega), if_neg (by omega), if_pos z] at h; rw [hX.ia.2.2.1]; exact h
    · rw [if_neg (by omega), if_neg (by omega), if_neg (by omega), if_pos z] at h; rw [b1.w0 (i := 8) ⟨by omega, by omega⟩]; exact h
    · rw [if_neg (by omega), if_neg (by omega), if_neg (by omega), if_neg (by omega)] at h; exact h
  · rw [i01n, hX.np] at c
    rw [if_pos (by omega)] at h
    exact h
theorem X_goes {p k : Int} (hd : 6 ≤ d) (hX : CX M W) (hok : OKW W) (h : ∀ M', FX M M' → CX M' W → Q (some (vI (aGoes W p k))) M') : Call d mX10_goes [vR 6, vI p, vI k] M Q := by
  obtain ⟨e, rfl⟩ := dd (d := d) (by omega)
  have hS := hX.shp
  have hn8 := hok.wi.1
  have h := h M (FX.refl hS) hX
  unfold aGoes at h
  refine vx_goes (by omega) hS ⟨fun c => ?_, fun c => ⟨fun c2 => ?_, fun c2 => ?_⟩⟩
  · rw [i01, hX.np] at c
    rw [if_pos (by omega)] at h
    exact h
  · rw [i01, hX.np] at c
    rw [fK_n] at c2
    obtain ⟨q, rfl⟩ : ∃ q : Nat, p = (q : Int) := ⟨p.toNat, by omega⟩
    rw [if_neg (by omega), Int.toNat_natCast] at h
    rw [atv_n (by omega : q < 8), hX.ia.2.2.2.2.1 q (by omega)]
    refine (congrArg (fun z => Q (some (vI z)) M) ?_).mp h
    rcases fG_01 (mi := W.I.mi q) (k := k) with z | z <;> rw [z] <;> decide
  · rw [fK_n] at c2
    rw [if_pos (by omega)] at h
    exact h
theorem X_status {w : Int} (hd : 6 ≤ d) (hX : CX M W) (hok : OKW W) (h : ∀ M', FX M M' → CX M' W → Q (some (vI (aStatus W w))) M') : Call d mX10_status [vR 6, vI w] M Q := by
  obtain ⟨e, rfl⟩ := dd (d := d) (by omega)
  have hS := hX.shp
  have h := h M (FX.refl hS) hX
  unfold aStatus at h
  refine vx_status (by omega) hS ?_
  by_cases c : 0 ≤ w ∧ w ≤ 4
  · rw [if_pos c] at h
    obtain ⟨q, rfl⟩ : ∃ q : Nat, w = (q : Int) := ⟨w.toNat, by omega⟩
    rw [if_neg (by omega), if_pos (by omega), atv_n (by omega), hX.rfu q (by omega)]
    exact h
  · rw [if_neg c] at h
    by_cases c2 : w < 0
    · rw [if_pos c2]; exact h
    · rw [if_neg c2, if_neg (by omega)]; exact h
theorem X_count {w : Int} (hd : 6 ≤ d) (hX : CX M W) (hok : OKW W) (h : ∀ M', FX M M' → CX M' W → Q (some (vI (aCount W w))) M') : Call d mX10_count [vR 6, vI w] M Q := by
  obtain ⟨e, rfl⟩ := dd (d := d) (by omega)
  have hS := hX.shp
  have h := h M (FX.refl hS) hX
  unfold aCount at h
  obtain ⟨_, x1, ⟨x2, x3, nx, _, _, x4, _⟩, _, _, ⟨x5, _⟩, ⟨x6, _⟩, ⟨x7, x8, _⟩, _, _, x9⟩ := hX
  refine vx_count (by omega) hS ⟨fun z => ?_, fun z => ?_, fun z => ?_, fun z => ?_, fun z => ?_, fun z => ?_, fun z => ?_, fun z => ?_, fun z => ?_, fun z => ?_⟩
  · rw [if_pos z] at h; rw [x1.1]; exact h
  · rw [if_neg (by omega), if_pos z] at h; rw [x7]; exact h
  · rw [if_neg (by omega), if_neg (by omega), if_pos z] at h; rw [x6]; exact h
  · rw [if_neg (by omega), if_neg (by omega), if_neg (by omega), if_pos z] at h; rw [x8]; exact h
  · rw [if_neg (by omega), if_neg (by omega), if_neg (by omega), if_neg (by omega), if_pos z] at h; rw [x3]; exact h
  · rw [if_neg (by omega), if_neg (by omega), if_neg (by omega), if_neg (by omega), if_neg (by omega), if_pos z] at h; rw [x9]; exact h
  · rw [if_neg (by omega), if_neg (by omega), if_neg (by omega), if_neg (by omega), if_neg (by omega), if_neg (by omega), if_pos z] at h; rw [x5]; exact h
  · rw [if_neg (by omega), if_neg (by omega), if_neg (by omega), if_neg (by omega), if_neg (by omega), if_neg (by omega), if_neg (by omega), if_pos z] at h
    refine s_logLength (by omega) hS (by decide) ⟨_, rfl, hS, ?_⟩
    rw [x3]
    exact h
  · rw [if_neg (by omega), if_neg (by omega), if_neg (by omega), if_neg (by omega), if_neg (by omega), if_neg (by omega), if_neg (by omega), if_neg (by omega), if_pos z] at h; rw [x4]; exact h
  · rw [if_neg (by omega), if_neg (by omega), if_neg (by omega), if_neg (by omega), if_neg (by omega), if_neg (by omega), if_neg (by omega), if_neg (by omega), if_neg (by omega)] at h; exact h
theorem hl_in {s : jS} (h0 : 0 ≤ s 0 9) : 0 ≤ hl s ∧ hl s ≤ 60 ∧ hl s ≤ s 0 9 := by unfold hl; split <;> omega
theorem X_log {i w : Int} (hd : 6 ≤ d) (hX : CX M W) (hok : OKW W) (h : ∀ M', FX M M' → CX M' W → Q (some (vI (aLog W i w))) M') : Call d mX10_log [vR 6, vI i, vI w] M Q := by
  obtain ⟨e, rfl⟩ := dd (d := d) (by omega)
  have hS := hX.shp
  have h09 := hok.h0
  have hl3 := hl_in h09.1
  have h := h M (FX.refl hS) hX
  unfold aLog at h
  refine vx_log (by omega) hS ⟨fun c => ?_, fun c => s_logLength (by omega) hS (by decide) ⟨_, rfl, hS, ?_⟩⟩
  · rw [if_neg (by omega)] at h; exact h
  · rw [hX.now.2.1]
    have ehl : (if (60 : Int) ≤ W.s 0 9 then (60 : Int) else W.s 0 9) = hl W.s := rfl
    rw [ehl]
    refine ⟨fun c2 => ?_, fun c2 => ⟨fun c3 => ?_, fun c3 => ⟨fun c4 => ?_, fun c4 => ?_⟩⟩⟩
    · rw [if_neg (by omega)] at h; exact h
    · rw [if_neg (by omega)] at h; exact h
    · rw [if_pos (by omega)] at h
      have hn : 0 < W.I.np := by
        rcases Nat.eq_zero_or_pos W.I.np with z | z
        · have := (hok.2.2.2.1 z).1; omega
        · exact z
      obtain ⟨b1, b2⟩ := hX.now.1 hn
      have g := hok.gs hn
      obtain ⟨q, rfl⟩ : ∃ q : Nat, w = (q : Int) := ⟨w.toNat, by omega⟩
      rw [Int.toNat_natCast] at h
      have hlt : ((W.s 0 9 - i) % 60).toNat < 60 := by omega
      have e9 : smS M 33 W.s 0 9 = W.s 0 9 := smS_n (by decide)
      have ev : iv M (33 + 7) ((W.s 0 9 - i) % 60).toNat = W.s 7 ((W.s 0 9 - i) % 60).toNat := b2 _ hlt
      have gb := g.2.2.2 _ hlt
      refine t_logged (by omega) hS (by decide) b1.sa g.1.sm ⟨by omega, by rw [e9]; omega⟩ (by omega) ?_ ⟨_, rfl, hS, ?_⟩
      · rw [e9, ev]; exact ⟨by omega, by omega⟩
      · rw [e9, ev]; exact h
    · rw [if_neg (by omega)] at h; exact h
theorem CX.me' {M' : jM} {v : Int} (h : CX M W) (hf : Fr (fun r => r = 6) M M') (h6 : ∀ j, j ≠ 6 → iv M' 6 j = iv M 6 j) (hv : iv M' 6 6 = v) : CX M' (W.setMe v) := by
  obtain ⟨a0, a1, ⟨x1, x2, x3⟩, a3, a4, ⟨r1, r2, r3⟩, a6, ⟨l1, l2, G, l3, l4, l5, l7⟩, a8, a9, a10⟩ := h
  have e : ∀ r, r ≠ 6 → iv M' r = iv M r := fun r hr => hf.eiv hr
  refine ⟨hf.shp a0, a1.xc hf (fun r hr => by unfold Xc; omega), ⟨fun z => ?_, by rw [e 33 (by omega)]; exact x2, x3.fr hf (fun r _ _ => by omega)⟩, ?_, ?_, ?_, ?_, ?_, ?_, ?_, hv⟩
  · obtain ⟨b1, b2⟩ := x1 z
    exact ⟨b1.fr hf (fun k hk _ => by omega), b2.fr hf (by omega)⟩
  · unfold PicX
    rw [h6 14 (by decide)]
    exact ⟨a3.1, fun u hu => by
      obtain ⟨b1, b2⟩ := a3.2 u hu
      exact ⟨b1.fr hf (fun k hk _ => by omega), b2.fr hf (by omega)⟩⟩
  · exact fun z => (a4 z).fr hf (fun k hk _ => by omega)
  · refine ⟨by rw [e 387 (by omega)]; exact r1, fun k hk => ?_, ?_⟩
    · rw [e 388 (by omega), e 389 (by omega), e 390 (by omega), e 391 (by omega)]; exact r2 k hk
    · rw [e 387 (by omega)]; exact r3.imp id (fun z => ⟨z.1, z.2.fr hf (fun r hr => by omega)⟩)
  · unfold TapX at a6 ⊢; rw [e 7 (by omega), e 8 (by omega)]; exact a6
  · unfold LawX
    rw [hf.erv]
    refine ⟨by rw [h6 4 (by decide)]; exact l1, by rw [h6 5 (by decide)]; exact l2, G, fun k hk => ?_, l4, l5, l7⟩
    obtain ⟨z1, z2, z3, z4, z5⟩ := l3 k hk
    obtain ⟨y1, y2⟩ := lawF_fr (g := G k) hf (fun k hk => by omega)
    exact ⟨z1, z2, hf.law z3, y2 z4, by rw [y1]; exact z5⟩
  · unfold RefX at a8 ⊢; rw [e 28 (by omega)]; exact a8
  · unfold RdrX LgtX; rw [e 12 (by omega), e 13 (by omega), e 14 (by omega), e 43 (by omega), e 44 (by omega), e 45 (by omega), e 48 (by omega)]; exact a9
theorem X_memory {v : Int} (hd : 6 ≤ d) (hX : CX M W) (hok : OKW W) (h : ∀ M', FX M M' → CX M' (wMemory W v).2 → Q (some (vI (wMemory W v).1)) M') : Call d mX10_memory [vR 6, vI v] M Q := by
  obtain ⟨e, rfl⟩ := dd (d := d) (by omega)
  have hS := hX.shp
  unfold wMemory at h
  refine vx_memory (by omega) hS ⟨fun c => ?_, fun c => ⟨fun c2 => ?_, fun c2 => ?_⟩⟩
  · rw [if_pos (by omega)] at h; exact h M (FX.refl hS) hX
  · rw [if_pos (by omega)] at h; exact h M (FX.refl hS) hX
  · rw [hX.me]
    refine ⟨fun c3 => ?_, fun c3 => ?_⟩
    · rw [if_neg (by omega)] at h
      have hf : Fr (fun r => r = 6) M (si M 6 6 v) := fr_si rfl
      exact h _ (FX.of hf hS (fun r hr => by omega)) (hX.me' hf (fun j hj => by rw [iv_si, if_neg (by omega)]) (by rw [iv_si, if_pos ⟨rfl, rfl⟩]))
    · rw [if_pos (by omega)] at h; exact h M (FX.refl hS) hX
end LooksX
section LooksM
variable {d : Nat} {M : jM} {Q : Option jV → jM → Prop} {W : kW}
theorem M_rule {w : Int} (hd : 8 ≤ d) (hM : CM M W) (hok : OKW W) (h : ∀ M', FM M M' → CM M' W → Q (some (vI (aRule W w))) M') : Call d mX11_rule [vR 468, vI w] M Q := by
  obtain ⟨e, rfl⟩ := dd (d := d) (by omega)
  have hS := hM.shp
  have h := h M Fr.refl hM
  unfold aRule at h
  refine vn_rule (by omega) hS ?_
  rw [hM.np]
  simp only [fIn_n]
  refine ⟨fun c => ?_, fun c => ⟨fun c2 => ⟨fun c3 => ⟨fun c4 => ⟨by omega, ?_⟩, fun c4 => ?_⟩, fun c3 => ?_⟩, fun c2 => ?_⟩⟩
  · rw [if_pos (by omega)] at h; exact h
  · rw [if_neg (by omega), if_neg (by omega)] at h
    have : w = 1 ∨ w = 2 := by omega
    rcases this with rfl | rfl
    · rw [if_pos rfl] at h; rw [show (1 : Int).toNat = 1 from rfl, hM.im.2.2.1]; exact h
    · rw [if_neg (by decide), if_pos rfl] at h; rw [show (2 : Int).toNat = 2 from rfl, hM.im.2.2.2.1]; exact h
  · rw [if_neg (by omega), if_neg (by omega), if_neg (by omega), if_neg (by omega), if_pos (by omega)] at h
    rw [(hM.now.1 (by omega)).2.2.2.1]; exact h
  · rw [if_neg (by omega), if_pos (by omega)] at h
    rw [(hM.now.1 (by omega)).2.2.1]; exact h
  · rw [if_neg (by omega), if_neg (by omega), if_neg (by omega), if_neg (by omega), if_neg (by omega)] at h; exact h
theorem M_goes {p k : Int} (hd : 8 ≤ d) (hM : CM M W) (hok : OKW W) (h : ∀ M', FM M M' → CM M' W → Q (some (vI (aGoes W p k))) M') : Call d mX11_goes [vR 468, vI p, vI k] M Q := by
  obtain ⟨e, rfl⟩ := dd (d := d) (by omega)
  have hS := hM.shp
  have hn8 := hok.wi.1
  have h := h M Fr.refl hM
  unfold aGoes at h
  refine vn_goes (by omega) hS ?_
  rw [hM.np, w32np hn8]
  simp only [fIn_n, fIn_0]
  refine ⟨fun c => ?_, fun c => ⟨fun c2 => ⟨by omega, ?_⟩, fun c2 => ?_⟩⟩
  · rw [if_pos (by omega)] at h; exact h
  · obtain ⟨q, rfl⟩ : ∃ q : Nat, p = (q : Int) := ⟨p.toNat, by omega⟩
    rw [if_neg (by omega), Int.toNat_natCast] at h
    rw [show (3 * (q : Int) + 2).toNat = 3 * q + 2 by omega, (hM.im.2.1 q (by omega)).2, fG_m (hok.wi.2.2.1 q (by omega)) (by omega)]
    refine (congrArg (fun z => Q (some (vI z)) M) ?_).mp h
    rcases fG_01 (mi := W.I.mi q) (k := k) with z | z <;> rw [z] <;> decide
  · rw [if_pos (by omega)] at h; exact h
theorem M_status {w : Int} (hd : 8 ≤ d) (hM : CM M W) (hok : OKW W) (h : ∀ M', FM M M' → CM M' W → Q (some (vI (aStatus W w))) M') : Call d mX11_status [vR 468, vI w] M Q := by
  obtain ⟨e, rfl⟩ := dd (d := d) (by omega)
  have hS := hM.shp
  have h := h M Fr.refl hM
  unfold aStatus at h
  refine vn_status (by omega) hS ?_
  simp only [fIn_0]
  refine ⟨fun c => ?_, fun c => ⟨by omega, ?_⟩⟩
  · rw [if_neg c] at h; exact h
  · rw [if_pos (by omega)] at h
    rw [hM.rfu _ (by omega)]; exact h
theorem M_count {w : Int} (hd : 8 ≤ d) (hM : CM M W) (hok : OKW W) (h : ∀ M', FM M M' → CM M' W → Q (some (vI (aCount W w))) M') : Call d mX11_count [vR 468, vI w] M Q := by
  obtain ⟨e, rfl⟩ := dd (d := d) (by omega)
  have hS := hM.shp
  have h := h M Fr.refl hM
  unfold aCount at h
  obtain ⟨_, x1, ⟨x2, x3, x4, x5, _⟩, _, _, ⟨x6, _⟩, ⟨x7, _⟩, ⟨x8, x9, _⟩, _, x10⟩ := hM
  refine vn_count (by omega) hS ⟨fun z => ?_, fun z => ?_, fun z => ?_, fun z => ?_, fun z => ?_, fun z => ?_, fun z => ?_, fun z => ?_, fun z => ?_, fun z => ?_⟩
  · rw [if_pos z] at h; rw [x1.1]; exact h
  · rw [if_neg (by omega), if_pos z] at h; rw [x8]; exact h
  · rw [if_neg (by omega), if_neg (by omega), if_pos z] at h; rw [x7]; exact h
  · rw [if_neg (by omega), if_neg (by omega), if_neg (by omega), if_pos z] at h; rw [x9]; exact h
  · rw [if_neg (by omega), if_neg (by omega), if_neg (by omega), if_neg (by omega), if_pos z] at h; rw [x4]; exact h
  · rw [if_neg (by omega), if_neg (by omega), if_neg (by omega), if_neg (by omega), if_neg (by omega), if_pos z] at h; rw [x10]; exact h
  · rw [if_neg (by omega), if_neg (by omega), if_neg (by omega), if_neg (by omega), if_neg (by omega), if_neg (by omega), if_pos z] at h; rw [x6]; exact h
  · rw [if_neg (by omega), if_neg (by omega), if_neg (by omega), if_neg (by omega), if_neg (by omega), if_neg (by omega), if_neg (by omega), if_pos z] at h; rw [x3.1]; exact h
  · rw [if_neg (by omega), if_neg (by omega), if_neg (by omega), if_neg (by omega), if_neg (by omega), if_neg (by omega), if_neg (by omega), if_neg (by omega), if_pos z] at h; rw [x5]; exact h
  · rw [if_neg (by omega), if_neg (by omega), if_neg (by omega), if_neg (by omega), if_neg (by omega), if_neg (by omega), if_neg (by omega), if_neg (by omega), if_neg (by omega)] at h; exact h
theorem M_log {i w : Int} (hd : 8 ≤ d) (hM : CM M W) (hok : OKW W) (h : ∀ M', FM M M' → CM M' W → Q (some (vI (aLog W i w))) M') : Call d mX11_log [vR 468, vI i, vI w] M Q := by
  obtain ⟨e, rfl⟩ := dd (d := d) (by omega)
  have hS := hM.shp
  have h09 := hok.h0
  have hl3 := hl_in h09.1
  have h := h M Fr.refl hM
  unfold aLog at h
  obtain ⟨l1, l2⟩ := hM.now.2.1
  refine vn_log (by omega) hS ?_
  rw [l1, w32_i (z := hl W.s - 1) (by omega) (by omega)]
  simp only [fIn_0]
  refine ⟨fun c => ?_, fun c => ⟨fun c2 => ?_, fun c2 => fun v3 hv3 => ?_⟩⟩
  · rw [if_neg (by omega)] at h; exact h
  · rw [if_neg (by omega)] at h; exact h
  · rw [if_pos (by omega)] at h
    rw [w32_i (z := hl W.s - 1 - i) (by omega) (by omega), w32_i (z := 3 * (hl W.s - 1 - i)) (by omega) (by omega), w32_i (by omega) (by omega)] at hv3
    rw [hv3, w32_i (by omega) (by omega)]
    refine ⟨by omega, ?_⟩
    have := l2 i.toNat w.toNat (by omega) (by omega)
    rw [show (172 + 3 * (hl W.s - 1 - i) + w).toNat = 172 + 3 * ((hl W.s).toNat - 1 - i.toNat) + w.toNat by omega, this, show ((i.toNat : Nat) : Int) = i by omega]
    exact h
theorem M_memory {v : Int} (hd : 8 ≤ d) (hM : CM M W) (hok : OKW W) (h : ∀ M', FM M M' → CM M' (wMemory W v).2 → Q (some (vI (wMemory W v).1)) M') : Call d mX11_memory [vR 468, vI v] M Q := by
  obtain ⟨e, rfl⟩ := dd (d := d) (by omega)
  have hS := hM.shp
  unfold wMemory at h
  refine vn_memory (by omega) hS ?_
  rw [hM.me]
  simp only [fIn_0]
  refine ⟨fun c => ?_, fun c => ⟨fun c3 N hN sN => ?_, fun c3 => ?_⟩⟩
  · rw [if_pos (by omega)] at h; exact h M Fr.refl hM
  · rw [if_neg (by omega)] at h
    have f2 : F4 (fun _ => False) (fun j => j = 31) M N := by rw [hN]; exact F4.refl.pj rfl
    have q4 : ∀ j, j ≠ 31 → iv N 468 j = iv M 468 j := fun j hj => (f2.2 j hj).1
    have qe : ∀ r, r ≠ 468 → iv N r = iv M r := fun r hr => f2.eiv ⟨fun z => z, hr⟩
    refine h N (f2.1.mono (fun r hr => by rcases hr with z | z; exact z.elim; omega)) ?_
    obtain ⟨a0, a1, a2, a3, a4, a5, a6, a7, a8, a9⟩ := hM
    refine ⟨sN, f2.im a1 (fun r _ z => z) (by omega) (by omega), ?_, ?_, ?_, ?_, ?_, ?_, ?_, ?_⟩
    · unfold NowM PM at a2 ⊢
      rw [q4 33 (by omega), qe 486 (by omega), qe 488 (by omega)]; exact a2
    · unfold PicM at a3 ⊢
      rw [q4 46 (by omega), qe 498 (by omega)]; exact a3
    · unfold TolM TM at a4 ⊢
      rw [q4 26 (by omega), qe 484 (by omega), qe 483 (by omega), qe 482 (by omega)]; exact a4
    · unfold RidM at a5 ⊢
      rw [q4 42 (by omega), qe 492 (by omega), qe 493 (by omega), qe 494 (by omega), qe 495 (by omega)]; exact a5
    · unfold TapM at a6 ⊢
      rw [q4 2 (by omega), qe 469 (by omega)]; exact a6
    · unfold LawM MLawW mlF mSg mVl mRow at a7 ⊢
      rw [q4 13 (by omega), q4 30 (by omega), qe 470 (by omega), qe 471 (by omega), qe 473 (by omega), qe 474 (by omega), qe 475 (by omega), qe 476 (by omega)]; exact a7
    · unfold RefM at a8 ⊢
      rw [qe 487 (by omega)]; exact a8
    · rw [hN, iv_si, if_pos ⟨rfl, rfl⟩]; rfl
  · rw [if_pos (by omega)] at h; exact h M Fr.refl hM
end LooksM
