/-! the most of all: of the model -/
section MostM
variable {d : Nat} {M : jM} {Q : Option jV → jM → Prop} {W : kW}
theorem ofF_stop {w : Nat → Int} {p : Int} {a : Nat} : ∀ k, (∀ j, a ≤ j → j < a + k → w j ≠ p) → ofF w p (a + k) = ofF w p a
  | 0, _ => rfl
  | k + 1, h => by
    rw [show a + (k + 1) = (a + k) + 1 by omega]
    simp only [ofF]
    rw [if_neg (h (a + k) (by omega) (by omega)), ofF_stop k (fun j h1 h2 => h j h1 (by omega))]
theorem ofF_in {w : Nat → Int} {p : Int} : ∀ n, 0 ≤ ofF w p n ∧ ofF w p n ≤ n
  | 0 => by simp [ofF]
  | n + 1 => by have := ofF_in (w := w) (p := p) n; simp only [ofF]; split <;> omega
theorem ofF_np {s : jS} {n : Nat} {p : Int} (hw : WS n s) (hn : n ≤ 8) (hp : p ≠ -1) : ofF (s 1) p 32 = ofF (s 1) p (4 * n) := by
  rw [show 32 = 4 * n + (32 - 4 * n) by omega]
  exact ofF_stop _ (fun j h1 h2 => by rw [hw.2.1 j (by omega) h1]; exact fun z => hp z.symm)
theorem oldF_stop {w g : Nat → Int} {a : Nat} : ∀ k, (∀ j, a ≤ j → j < a + k → w j = -1) → oldF w g (a + k) = oldF w g a
  | 0, _ => rfl
  | k + 1, h => by
    rw [show a + (k + 1) = (a + k) + 1 by omega]
    simp only [oldF]
    rw [if_neg (fun z => z.1 (h (a + k) (by omega) (by omega))), oldF_stop k (fun j h1 h2 => h j h1 (by omega))]
theorem m_ofMany {s : jS} {n : Nat} {p : Int} (hd : 7 ≤ d) (hS : Shp M) (h25 : iv M 468 25 = (n : Int)) (hn : n ≤ 8) (hs : MR M n s) (hw : WS n s) (hp : p ≠ -1) (h : Q (some (vI (ofF (s 1) p 32))) M) : Call d mX11_ofMany [vR 468, vI p] M Q := by
  obtain ⟨e, rfl⟩ := dd (d := d) (by omega)
  rw [ofF_np hw hn hp] at h
  refine vn_ofMany (by omega) hS ?_
  refine up_to (R := fun i => Run (e + 1) mX11_ofMany 4 [some (vR 468), some (vI p), some (vI (ofF (s 1) p i)), some (vI (i : Int))] [] M Q) (4 * n) ?_ ?_
  · exact vn_ofMany_4 (by omega) hS ⟨fun _ => h, fun c => absurd c (by rw [h25, w32_i (by omega) (by omega)]; omega)⟩
  · intro i hi ih
    have hc := ofF_in (w := s 1) (p := p) i
    refine vn_ofMany_4 (by omega) hS ⟨fun c => absurd c (by rw [h25, w32_i (by omega) (by omega)]; omega), fun _ => ?_⟩
    rw [jdiv_eq ⟨by omega, by omega⟩ ⟨by decide, by decide⟩, jrem_eq ⟨by omega, by omega⟩ ⟨by decide, by decide⟩]
    refine ⟨⟨⟨by omega, by omega⟩, by omega, by omega⟩, fun v3 hv3 => ?_⟩
    obtain ⟨r1, r2⟩ := hs.1 i (by omega)
    have x0 : (20 * ((i : Int) / 4) + 5 * ((i : Int) % 4)).toNat = 5 * i := by omega
    have x1 : (20 * ((i : Int) / 4) + 5 * ((i : Int) % 4) + 1).toNat = 5 * i + 1 := by omega
    rw [x0, x1] at hv3
    rw [w32s (by omega)]
    simp only [ofF] at ih
    have e3 : v3 = if s 1 i = p then ofF (s 1) p i + 1 else ofF (s 1) p i := by
      rw [hv3]
      by_cases c : s 1 i = p
      · obtain ⟨y1, y2, _⟩ := r2 (by rw [c]; exact hp)
        rw [if_pos c, if_neg (by rw [if_pos ⟨y1, by rw [y2, c]⟩]; decide), w32_i (by omega) (by omega)]
      · rw [if_neg c, if_pos, w32_i (by omega) (by omega), Int.add_zero]
        rw [if_neg]
        intro z
        by_cases c2 : s 1 i = -1
        · rw [r1 c2] at z; omega
        · rw [(r2 c2).2.1] at z; exact c z.2
    rw [e3]
    exact ih
theorem m_valueOf {p : Nat} {w : Int} (hd : 16 ≤ d) (hM : CM M W) (hok : OKW W) (hp : p < W.I.np) (hw : 0 ≤ w ∧ w ≤ 3) (h : ∀ M', Fr Mp M M' → CM M' W → FM M M' → Q (some (vL (if w = 0 then W.wt p else if w = 1 then -W.wt p else if w = 2 then W.I.dp p else ofF (W.s 1) p 32))) M') : Call d mX11_valueOf [vR 468, vI (p : Int), vI w] M Q := by
  obtain ⟨e, rfl⟩ := dd (d := d) (by omega)
  have hS := hM.shp
  have hn8 := hok.wi.1
  have hwt := W.wt_in hok hp
  refine vn_valueOf (by omega) hS ⟨fun z => ?_, fun z => ?_, fun z => ?_, fun z => ?_⟩
  · rw [if_pos z] at h
    exact M_weight (by omega) hM hok hp (fun M2 f2 c2 g2 => ⟨_, rfl, c2.shp, h M2 f2 c2 g2⟩)
  · rw [if_neg (by omega), if_pos z] at h
    refine M_weight (by omega) hM hok hp (fun M2 f2 c2 g2 => ⟨_, rfl, c2.shp, ?_⟩)
    rw [w64_i (by omega) (by omega)]
    exact h M2 f2 c2 g2
  · rw [if_neg (by omega), if_neg (by omega), if_pos z] at h
    rw [w32_i (z := 3 * (p : Int)) (by omega) (by omega), w32_i (z := 3 * (p : Int) + 1) (by omega) (by omega), show (3 * (p : Int) + 1).toNat = 3 * p + 1 by omega, (hM.im.2.1 p hp).1]
    exact ⟨by omega, h M Fr.refl hM Fr.refl⟩
  · rw [if_neg (by omega), if_neg (by omega), if_neg (by omega)] at h
    exact m_ofMany (by omega) hS hM.np hn8 (hM.mr (by omega)) (hok.gs (by omega)).1 (by omega) ⟨_, rfl, hS, h M Fr.refl hM Fr.refl⟩
theorem m_topBy {w : Int} {v : Nat → Int} (hd : 17 ≤ d) (hM : CM M W) (hok : OKW W) (hn : 2 ≤ W.I.np) (hw : 0 ≤ w ∧ w ≤ 3) (hv : ∀ p, v p = if w = 0 then W.wt p else if w = 1 then -W.wt p else if w = 2 then W.I.dp p else ofF (W.s 1) p 32) (h : ∀ M', CM M' W → FM M M' → Q (some (vI (topF v W.I.np : Nat))) M') : Call d mX11_topBy [vR 468, vI w] M Q := by
  obtain ⟨e, rfl⟩ := dd (d := d) (by omega)
  have hS := hM.shp
  refine vn_topBy (by omega) hS ?_
  refine (congrArg (fun z => Run (e + 1) mX11_topBy 4 [some (vR 468), some (vI w), some (vI z), some (vI 1)] [] M Q) (show (0 : Int) = ((topF v (0 + 1) : Nat) : Int) by rw [topF_1]; rfl)).mpr ?_
  refine up_to (R := fun i => ∀ M1, CM M1 W → FM M M1 → Run (e + 1) mX11_topBy 4 [some (vR 468), some (vI w), some (vI (topF v (i + 1) : Nat)), some (vI ((i + 1 : Nat) : Int))] [] M1 Q) (W.I.np - 1) ?_ ?_ M hM Fr.refl
  · intro M1 c1 f1
    rw [show W.I.np - 1 + 1 = W.I.np by omega]
    exact vn_topBy_4 (by omega) c1.shp ⟨fun _ => h M1 c1 f1, fun c => absurd c (by rw [c1.np]; omega)⟩
  · intro i hi ih M1 c1 f1
    have ht := topF_lt (v := v) (i + 1) (by omega)
    rw [topF_s (n := i + 1)] at ih
    have hn8 := hok.wi.1
    refine vn_topBy_4 (by omega) c1.shp ⟨fun c => absurd c (by rw [c1.np]; omega), fun _ => m_valueOf (by omega) c1 hok (by omega) hw (fun M2 _ c2 f2 => ⟨_, rfl, c2.shp, m_valueOf (by omega) c2 hok (by omega) hw (fun M3 _ c3 f3 => ⟨_, rfl, c3.shp, ?_⟩)⟩)⟩
    rw [w32s (by omega), ← hv, ← hv]
    refine (congrArg (fun z => Run (e + 1) mX11_topBy 4 [some (vR 468), some (vI w), some (vI z), some (vI ((i + 1 + 1 : Nat) : Int))] [] M3 Q) ?_).mp (ih M3 c3 (FM.trans f1 (FM.trans f2 f3)))
    simp only [jcmp_le]
    split <;> split <;> first | rfl | omega
theorem m_nobodys (hd : 8 ≤ d) (hM : CM M W) (hok : OKW W) (hn : 2 ≤ W.I.np) (h : Q (some (vI (bitF (fun p => decide (ofF (W.s 1) p 32 = 0)) W.I.np))) M) : Call d mX11_nobodys [vR 468] M Q := by
  obtain ⟨e, rfl⟩ := dd (d := d) (by omega)
  have hS := hM.shp
  have hn8 := hok.wi.1
  refine vn_nobodys (by omega) hS ?_
  refine up_to (R := fun i => Run (e + 1) mX11_nobodys 4 [some (vR 468), some (vI (bitF (fun p => decide (ofF (W.s 1) p 32 = 0)) i)), some (vI (i : Int))] [] M Q) W.I.np ?_ ?_
  · exact vn_nobodys_4 (by omega) hS ⟨fun _ => h, fun c => absurd c (by rw [hM.np]; omega)⟩
  · intro i hi ih
    refine vn_nobodys_4 (by omega) hS ⟨fun c => absurd c (by rw [hM.np]; omega), fun _ => m_ofMany (by omega) hS hM.np hn8 (hM.mr (by omega)) (hok.gs (by omega)).1 (by omega) ⟨_, rfl, hS, ?_⟩⟩
    rw [w32s (by omega)]
    rw [← jor_sel (by omega)] at ih
    refine (congrArg (fun z => Run (e + 1) mX11_nobodys 4 [some (vR 468), some (vI (jor (bitF (fun p => decide (ofF (W.s 1) p 32 = 0)) i) z)), some (vI ((i + 1 : Nat) : Int))] [] M Q) ?_).mp ih
    simp only [decide_eq_true_eq]
    by_cases c : ofF (W.s 1) (i : Nat) 32 = 0 <;> simp [c]
theorem m_fullOnes (hd : 8 ≤ d) (hM : CM M W) (hok : OKW W) (hn : 2 ≤ W.I.np) (h : Q (some (vI (bitF (fun p => decide (fE (W.s 1) p = -1)) W.I.np))) M) : Call d mX11_fullOnes [vR 468] M Q := by
  obtain ⟨e, rfl⟩ := dd (d := d) (by omega)
  have hS := hM.shp
  have hn8 := hok.wi.1
  refine vn_fullOnes (by omega) hS ?_
  refine up_to (R := fun i => Run (e + 1) mX11_fullOnes 4 [some (vR 468), some (vI (bitF (fun p => decide (fE (W.s 1) p = -1)) i)), some (vI (i : Int))] [] M Q) W.I.np ?_ ?_
  · exact vn_fullOnes_4 (by omega) hS ⟨fun _ => h, fun c => absurd c (by rw [hM.np]; omega)⟩
  · intro i hi ih
    refine vn_fullOnes_4 (by omega) hS ⟨fun c => absurd c (by rw [hM.np]; omega), fun _ => m_emptyIn (by omega) hS (hM.mr (by omega)) (by omega) ⟨_, rfl, hS, ?_⟩⟩
    rw [w32s (by omega)]
    rw [← jor_sel (by omega)] at ih
    refine (congrArg (fun z => Run (e + 1) mX11_fullOnes 4 [some (vR 468), some (vI (jor (bitF (fun p => decide (fE (W.s 1) p = -1)) i) z)), some (vI ((i + 1 : Nat) : Int))] [] M Q) ?_).mp ih
    simp only [decide_eq_true_eq]
    by_cases c : fE (W.s 1) i = -1 <;> simp [c]
theorem m_oldest (hd : 8 ≤ d) (hM : CM M W) (hok : OKW W) (hn : 2 ≤ W.I.np) (h : Q (some (vI (oldF (W.s 1) (W.s 4) 32))) M) : Call d mX11_oldest [vR 468] M Q := by
  obtain ⟨e, rfl⟩ := dd (d := d) (by omega)
  have hS := hM.shp
  have hn8 := hok.wi.1
  have hw := (hok.gs (by omega)).1
  have hs := hM.mr (by omega)
  rw [show 32 = 4 * W.I.np + (32 - 4 * W.I.np) by omega, oldF_stop _ (fun j h1 h2 => hw.2.1 j (by omega) h1)] at h
  refine vn_oldest (by omega) hS ?_
  refine up_to (R := fun p => ∀ l3, Run (e + 1) mX11_oldest 4 [some (vR 468), some (vI (oldF (W.s 1) (W.s 4) (4 * p))), some (vI (p : Int)), l3] [] M Q) W.I.np ?_ ?_ _
  · intro l3
    exact vn_oldest_4 (by omega) hS ⟨fun _ => h, fun c => absurd c (by rw [hM.np]; omega)⟩
  · intro p hp ih l3
    refine vn_oldest_4 (by omega) hS ⟨fun c => absurd c (by rw [hM.np]; omega), fun _ => ?_⟩
    refine up_to (R := fun i => Run (e + 1) mX11_oldest 14 [some (vR 468), some (vI (oldF (W.s 1) (W.s 4) (4 * p + i))), some (vI (p : Int)), some (vI (i : Int))] [] M Q) 4 ?_ ?_
    · refine vn_oldest_14 (by omega) hS ⟨fun _ => ?_, fun c => absurd c (by decide)⟩
      rw [w32s (by omega)]
      exact ih _
    · intro i hi ih2
      obtain ⟨r1, r2⟩ := hs.1 (4 * p + i) (by omega)
      rw [show 4 * p + (i + 1) = 4 * p + i + 1 by omega] at ih2
      simp only [oldF] at ih2
      have x0 : (20 * (p : Int) + 5 * (i : Int) + 0).toNat = 5 * (4 * p + i) := by omega
      have x4 : (20 * (p : Int) + 5 * (i : Int) + 4).toNat = 5 * (4 * p + i) + 4 := by omega
      refine vn_oldest_14 (by omega) hS ⟨fun c => absurd c (by omega), fun _ => ⟨⟨⟨by omega, by omega⟩, by omega, by omega⟩, fun c => ?_, fun c v5 hv5 => ?_⟩⟩
      · rw [x0] at c
        have hno : W.s 1 (4 * p + i) = -1 := by
          by_cases z : W.s 1 (4 * p + i) = -1
          · exact z
          · exact absurd (r2 z).1 c
        rw [if_neg (fun z => z.1 hno)] at ih2
        rw [w32s (by omega)]
        exact ih2
      · rw [x0] at c
        have hth : W.s 1 (4 * p + i) ≠ -1 := fun z => by rw [r1 z] at c; omega
        rw [x4, (r2 hth).2.2.2.2] at hv5
        rw [w32s (by omega), hv5]
        refine (congrArg (fun z => Run (e + 1) mX11_oldest 14 [some (vR 468), some (vI z), some (vI (p : Int)), some (vI ((i + 1 : Nat) : Int))] [] M Q) ?_).mp ih2
        by_cases c2 : oldF (W.s 1) (W.s 4) (4 * p + i) < W.s 4 (4 * p + i)
        · rw [if_pos c2, if_pos ⟨hth, c2⟩]
        · rw [if_neg c2, if_neg (fun z => c2 z.2)]
theorem m_thinksOf {s : jS} {n q : Nat} {p : Int} (hd : 7 ≤ d) (hS : Shp M) (hs : MR M n s) (hq : q < 8) (hp : p ≠ -1) (h : Q (some (vI (thkF (s 1) q p))) M) : Call d mX11_thinksOf [vR 468, vI (q : Int), vI p] M Q := by
  obtain ⟨e, rfl⟩ := dd (d := d) (by omega)
  refine vn_thinksOf (by omega) hS ?_
  have st : ∀ i : Nat, i < 4 → (s 1 (4 * q + i) = p → Q (some (vI 1)) M) → (s 1 (4 * q + i) ≠ p → Run (e + 1) mX11_thinksOf 2 [some (vR 468), some (vI (q : Int)), some (vI p), some (vI ((i + 1 : Nat) : Int))] [] M Q) → Run (e + 1) mX11_thinksOf 2 [some (vR 468), some (vI (q : Int)), some (vI p), some (vI (i : Int))] [] M Q := by
    intro i hi h1 h2
    obtain ⟨r1, r2⟩ := hs.1 (4 * q + i) (by omega)
    have x0 : (20 * (q : Int) + 5 * (i : Int)).toNat = 5 * (4 * q + i) := by omega
    have x1 : (20 * (q : Int) + 5 * (i : Int) + 1).toNat = 5 * (4 * q + i) + 1 := by omega
    refine vn_thinksOf_2 (by omega) hS ⟨fun c => absurd c (by omega), fun _ => ⟨⟨⟨by omega, by omega⟩, by omega, by omega⟩, fun c => ?_, fun c => ?_⟩⟩
    · rw [x0, x1, i01] at c
      rw [w32s (by omega)]
      refine h2 (fun z => c ?_)
      obtain ⟨y1, y2, _⟩ := r2 (by rw [z]; exact hp)
      exact ⟨y1, by rw [y2, z]⟩
    · rw [x0, x1, i01, Classical.not_not] at c
      refine h1 ?_
      by_cases z : s 1 (4 * q + i) = -1
      · rw [r1 z] at c; omega
      · rw [(r2 z).2.1] at c; exact c.2
  unfold thkF at h
  refine st 0 (by omega) (fun z => ?_) (fun z0 => st 1 (by omega) (fun z => ?_) (fun z1 => st 2 (by omega) (fun z => ?_) (fun z2 => st 3 (by omega) (fun z => ?_) (fun z3 => ?_))))
  · rw [if_pos (Or.inl (show s 1 (4 * q) = p from z))] at h; exact h
  · rw [if_pos (Or.inr (Or.inl z))] at h; exact h
  · rw [if_pos (Or.inr (Or.inr (Or.inl z)))] at h; exact h
  · rw [if_pos (Or.inr (Or.inr (Or.inr z)))] at h; exact h
  · rw [if_neg (fun z => by rcases z with z | z | z | z; exact z0 z; exact z1 z; exact z2 z; exact z3 z)] at h
    exact vn_thinksOf_2 (by omega) hS ⟨fun _ => h, fun c => absurd (by decide) c⟩
theorem m_pairMany (hd : 9 ≤ d) (hM : CM M W) (hok : OKW W) (hn : 2 ≤ W.I.np) (h : Q (some (vI (prN W.s W.I.np))) M) : Call d mX11_pairMany [vR 468] M Q := by
  obtain ⟨e, rfl⟩ := dd (d := d) (by omega)
  have hS := hM.shp
  have hn8 := hok.wi.1
  have hs := hM.mr (by omega)
  rw [prN_eq] at h
  have in8 : ∀ p n, n ≤ 8 → 0 ≤ sumF (fun o => prB W.s p o) n ∧ sumF (fun o => prB W.s p o) n ≤ 8 := by
    intro p n hn
    have := sum01 (f := fun o => prB W.s p o) (fun j => prB_in) n
    omega
  have inS : ∀ i, i ≤ 8 → 0 ≤ sumF (fun p => sumF (fun o => prB W.s p o) p) i ∧ sumF (fun p => sumF (fun o => prB W.s p o) p) i ≤ 8 * (i : Int) := by
    intro i
    induction i with
    | zero => intro _; simp [sumF]
    | succ i ih =>
      intro hi
      have := ih (by omega)
      have := in8 i i (by omega)
      simp only [sumF]
      omega
  refine vn_pairMany (by omega) hS ?_
  refine up_to (R := fun p => ∀ l3, Run (e + 1) mX11_pairMany 4 [some (vR 468), some (vI (sumF (fun p => sumF (fun o => prB W.s p o) p) p)), some (vI (p : Int)), l3] [] M Q) W.I.np ?_ ?_ _
  · intro l3
    exact vn_pairMany_4 (by omega) hS ⟨fun _ => h, fun c => absurd c (by rw [hM.np]; omega)⟩
  · intro p hp ih l3
    simp only [sumF] at ih
    have b1 := inS p (by omega)
    refine vn_pairMany_4 (by omega) hS ⟨fun c => absurd c (by rw [hM.np]; omega), fun _ => ?_⟩
    have key := up_to (R := fun o => Run (e + 1) mX11_pairMany 14 [some (vR 468), some (vI (sumF (fun p => sumF (fun o => prB W.s p o) p) p + sumF (fun o => prB W.s p o) o)), some (vI (p : Int)), some (vI (o : Int))] [] M Q) p (by
      refine vn_pairMany_14 (by omega) hS ⟨fun _ => ?_, fun c => absurd (Int.le_refl _) c⟩
      rw [w32s (by omega)]
      exact ih _) (by
      intro o ho ih2
      have b2 := in8 p o (by omega)
      simp only [sumF] at ih2
      refine vn_pairMany_14 (by omega) hS ⟨fun c => absurd c (by omega), fun _ => m_thinksOf (by omega) hS hs (by omega) (by omega) ⟨_, rfl, hS, ?_⟩⟩
      rw [w32s (by omega)]
      refine ⟨fun c => ?_, fun c => m_thinksOf (by omega) hS hs (by omega) (by omega) ⟨_, rfl, hS, ?_⟩⟩
      · rw [show prB W.s p o = 0 from if_pos c] at ih2
        rw [w32_i (by omega) (by omega)]
        rw [show ∀ x y : Int, x + (y + 0) = x + y + 0 from fun x y => by omega] at ih2
        exact ih2
      · have ep : (if thkF (W.s 1) o p = 0 then (0 : Int) else 1) = prB W.s p o := by unfold prB; rw [if_neg c]
        rw [ep]
        have := prB_in (s := W.s) (i := p) (j := o)
        rw [w32_i (by omega) (by omega)]
        rw [show ∀ x y z : Int, x + (y + z) = x + y + z from fun x y z => by omega] at ih2
        exact ih2)
    have key : Run (e + 1) mX11_pairMany 14 [some (vR 468), some (vI (sumF (fun p => sumF (fun o => prB W.s p o) p) p + 0)), some (vI (p : Int)), some (vI 0)] [] M Q := key
    rw [Int.add_zero] at key
    exact key
theorem M_most {w : Int} (hd : 19 ≤ d) (hM : CM M W) (hok : OKW W) (h : ∀ M', FM M M' → CM M' W → Q (some (vI (aMost W w))) M') : Call d mX11_most [vR 468, vI w] M Q := by
  obtain ⟨e, rfl⟩ := dd (d := d) (by omega)
  have hS := hM.shp
  have hn8 := hok.wi.1
  unfold aMost at h
  have h0 := h M Fr.refl hM
  refine vn_most (by omega) hS ?_
  rw [hM.np]
  simp only [fIn_n]
  refine ⟨fun c => ?_, fun c => ⟨fun c2 => ?_, fun c2 => ?_⟩⟩
  · rw [if_pos (by omega)] at h0; exact h0
  · rw [if_neg (by omega)] at h h0
    have hn2 := hok.n2 (by omega)
    have gs := (hok.gs (by omega)).1
    have r2 := hM.mr (by omega)
    refine ⟨fun z => m_floating (by omega) hS hM.im hok.wi r2 gs (fun M2 f2 => ⟨_, rfl, f2.shp hS, ?_⟩), fun z => m_sinking (by omega) hS hM.im hok.wi r2 gs (fun M2 f2 => ⟨_, rfl, f2.shp hS, ?_⟩), fun z => m_nobodys (by omega) hM hok hn2 ⟨_, rfl, hS, ?_⟩, fun z => m_thoughtMany (by omega) hS hM.im hok.wi r2 gs ⟨_, rfl, hS, ?_⟩, fun z => m_fullOnes (by omega) hM hok hn2 ⟨_, rfl, hS, ?_⟩, fun z => m_oldest (by omega) hM hok hn2 ⟨_, rfl, hS, ?_⟩, fun z => m_pairMany (by omega) hM hok hn2 ⟨_, rfl, hS, ?_⟩, fun z => ?_⟩
    · rw [if_neg (by omega), if_neg (by omega), if_neg (by omega), if_neg (by omega), if_pos z] at h; exact h M2 (hM.mp f2).2 (hM.mp f2).1
    · rw [if_neg (by omega), if_neg (by omega), if_neg (by omega), if_neg (by omega), if_neg (by omega), if_pos z] at h; exact h M2 (hM.mp f2).2 (hM.mp f2).1
    · rw [if_neg (by omega), if_neg (by omega), if_neg (by omega), if_neg (by omega), if_neg (by omega), if_neg (by omega), if_pos z] at h0; exact h0
    · rw [if_neg (by omega), if_neg (by omega), if_neg (by omega), if_neg (by omega), if_neg (by omega), if_neg (by omega), if_neg (by omega), if_pos z] at h0; exact h0
    · rw [if_neg (by omega), if_neg (by omega), if_neg (by omega), if_neg (by omega), if_neg (by omega), if_neg (by omega), if_neg (by omega), if_neg (by omega), if_pos z] at h0; exact h0
    · rw [if_neg (by omega), if_neg (by omega), if_neg (by omega), if_neg (by omega), if_neg (by omega), if_neg (by omega), if_neg (by omega), if_neg (by omega), if_neg (by omega), if_pos z] at h0; exact h0
    · rw [if_neg (by omega), if_neg (by omega), if_neg (by omega), if_neg (by omega), if_neg (by omega), if_neg (by omega), if_neg (by omega), if_neg (by omega), if_neg (by omega), if_neg (by omega), if_pos z] at h0; exact h0
    · have hw : w = 0 ∨ w = 1 ∨ w = 2 ∨ w = 3 := by omega
      rcases hw with rfl | rfl | rfl | rfl
      · rw [if_pos rfl] at h
        exact m_topBy (by omega) hM hok hn2 (by omega) (fun p => (if_pos rfl).symm) (fun M2 c2 f2 => ⟨_, rfl, c2.shp, h M2 f2 c2⟩)
      · rw [if_neg (by decide), if_pos rfl] at h
        exact m_topBy (v := fun p => -W.wt p) (by omega) hM hok hn2 (by omega) (fun p => by rw [if_neg (by decide), if_pos rfl]) (fun M2 c2 f2 => ⟨_, rfl, c2.shp, h M2 f2 c2⟩)
      · rw [if_neg (by decide), if_neg (by decide), if_pos rfl] at h
        exact m_topBy (by omega) hM hok hn2 (by omega) (fun p => by rw [if_neg (by decide), if_neg (by decide), if_pos rfl]) (fun M2 c2 f2 => ⟨_, rfl, c2.shp, h M2 f2 c2⟩)
      · rw [if_neg (by decide), if_neg (by decide), if_neg (by decide), if_pos rfl] at h
        exact m_topBy (v := fun p => ofF (W.s 1) p 32) (by omega) hM hok hn2 (by omega) (fun p => by rw [if_neg (by decide), if_neg (by decide), if_neg (by decide)]) (fun M2 c2 f2 => ⟨_, rfl, c2.shp, h M2 f2 c2⟩)
  · rw [if_neg (by omega), if_neg (by omega), if_neg (by omega), if_neg (by omega), if_neg (by omega), if_neg (by omega), if_neg (by omega), if_neg (by omega), if_neg (by omega), if_neg (by omega), if_neg (by omega), if_neg (by omega)] at h0; exact h0
end MostM
