/-! THE MODEL: weights, who floats, who sinks -/
theorem wtF_stop {w m : Nat → Int} {p s0 : Int} {a : Nat} : ∀ k, (∀ j, a ≤ j → j < a + k → w j ≠ p) → wtF w m p s0 (a + k) = wtF w m p s0 a
  | 0, _ => rfl
  | k + 1, h => by
    rw [show a + (k + 1) = (a + k) + 1 by omega]
    simp only [wtF]
    rw [if_neg (h (a + k) (by omega) (by omega)), wtF_stop k (fun j h1 h2 => h j h1 (by omega))]
theorem massS_in {I : jI} {s : jS} (hI : WI I) {j : Nat} (hj : j < 32) : 0 ≤ massS I s j ∧ massS I s j ≤ 134217728 := by
  unfold massS
  split
  · omega
  · have := massF_in (I := I) (q := j / 4) (t := s 3 j) (k := s 2 j) (g := s 4 j) (wi := s 0 7) (ho := s 0 9) hI (by omega)
    exact ⟨this.2.2.1, this.2.2.2⟩
theorem WM_pW {I : jI} {s : jS} (hI : WI I) : WM (pW I s) := by
  intro j hj
  show 0 ≤ (if 5 = 5 then massS I s j else s 5 j) ∧ (if 5 = 5 then massS I s j else s 5 j) ≤ 134217728
  exact massS_in hI hj
theorem WS_pW {n : Nat} {I : jI} {s : jS} (h : WS n s) : WS n (pW I s) := h
theorem wtS_pW {I : jI} {s : jS} {p : Nat} : wtS (pW I s) p = wtF (s 1) (massS I s) p (1000 * s 6 p) 32 := by
  unfold wtS
  exact wtF_congr 32 (fun j hj => ⟨rfl, rfl⟩)
theorem wtS_np {n : Nat} {I : jI} {s : jS} {p : Nat} (hw : WS n s) (hn : n ≤ 8) : wtS (pW I s) p = wtF (s 1) (massS I s) p (1000 * s 6 p) (4 * n) := by
  rw [wtS_pW, show 32 = 4 * n + (32 - 4 * n) by omega]
  refine wtF_stop _ (fun j h1 h2 => ?_)
  rw [hw.2.1 j (by omega) h1]
  omega
section MWeigh
variable {d : Nat} {M : jM} {Q : Option jV → jM → Prop} {I : jI} {s : jS}
theorem m_weightOf {w : Nat} (hd : 15 ≤ d) (hS : Shp M) (hA : IM M I) (hI : WI I) (hs : MR M I.np s) (hw : WS I.np s) (hp : w < I.np)
    (h : ∀ M', Fr Mp M M' → Q (some (vL (wtS (pW I s) w))) M') : Call d mX11_weightOf [vR 468, vI (w : Int)] M Q := by
  obtain ⟨e, rfl⟩ := dd (d := d) (by omega)
  have hnp := hI.1
  have hb := hw.2.2.1 w (by omega)
  have hbw := fun n (hn : n ≤ 32) => wtF_in (w := s 1) (m := massS I s) (p := (w : Int)) (s0 := 1000 * s 6 w) ⟨by omega, by omega⟩ n hn (fun j hj => massS_in hI (by omega))
  refine vn_weightOf (by omega) hS ?_
  rw [w32_i (z := 160 + (w : Int)) (by omega) (by omega), show (160 + (w : Int)).toNat = 160 + w by omega, hs.2.1 w hp, w64_i (z := 1000 * s 6 w) (by omega) (by omega)]
  refine ⟨⟨by omega, by omega⟩, ?_⟩
  refine up_to (R := fun p' => ∀ (M1 : jM) (l5 : Option jV), Fr Mp M M1 → Run (e + 1) mX11_weightOf 19 [some (vR 468), some (vI (w : Int)), some (vL (wtF (s 1) (massS I s) w (1000 * s 6 w) (4 * p'))), none, some (vI (p' : Int)), l5] [] M1 Q) I.np ?_ ?_ M _ Fr.refl
  · intro M1 l5 hf
    refine vn_weightOf_19 (by omega) (hf.shp hS) ⟨fun _ => ?_, fun c => absurd c (by rw [hf.eiv (r := 468) (by unfold Mp; omega), hA.1]; omega)⟩
    rw [← wtS_np hw hnp]
    exact h M1 hf
  · intro p' hp' ih M1 l5 hf
    refine vn_weightOf_19 (by omega) (hf.shp hS) ⟨fun c => absurd c (by rw [hf.eiv (r := 468) (by unfold Mp; omega), hA.1]; omega), fun _ => ?_⟩
    refine up_to (R := fun i => ∀ (M1 : jM), Fr Mp M M1 → Run (e + 1) mX11_weightOf 31 [some (vR 468), some (vI (w : Int)), some (vL (wtF (s 1) (massS I s) w (1000 * s 6 w) (4 * p' + i))), none, some (vI (p' : Int)), some (vI (i : Int))] [] M1 Q) 4 ?_ ?_ M1 hf
    · intro M1 hf
      refine vn_weightOf_31 (by omega) (hf.shp hS) ⟨fun _ => ?_, fun c => absurd c (by decide)⟩
      rw [w32s (by omega)]
      exact ih M1 _ hf
    · intro i hi ih2 M1 hf
      have hs1 := hs.fr hf (by unfold Mp; omega)
      have hA1 := hA.fr hf (by intro r hr; unfold Mp; omega)
      have x0 : (20 * (p' : Int) + 5 * i).toNat = 5 * (4 * p' + i) := by omega
      have x1 : (20 * (p' : Int) + 5 * i + 1).toNat = 5 * (4 * p' + i) + 1 := by omega
      obtain ⟨r1, r2⟩ := hs1.1 (4 * p' + i) (by omega)
      have b1 := hbw (4 * p' + i) (by omega)
      have b2 := massS_in (I := I) (s := s) hI (j := 4 * p' + i) (by omega)
      rw [show 4 * p' + (i + 1) = 4 * p' + i + 1 by omega] at ih2
      simp only [wtF] at ih2
      refine vn_weightOf_31 (by omega) (hf.shp hS) ⟨fun c => absurd c (by omega), fun _ => ⟨⟨⟨by omega, by omega⟩, by omega, by omega⟩, fun c => ?_, fun c => ?_⟩⟩
      · rw [x0, x1] at c
        rw [w32s (by omega)]
        rw [if_neg (by
          intro q
          refine absurd c ?_
          obtain ⟨y1, y2, _⟩ := r2 (by omega)
          rw [if_pos ⟨y1, by rw [y2]; exact q⟩]
          decide)] at ih2
        exact ih2 M1 hf
      · rw [x0, x1] at c
        have hth : s 1 (4 * p' + i) ≠ -1 := by
          intro q
          refine c ?_
          rw [if_neg]
          rw [r1 q]
          omega
        have hpq : s 1 (4 * p' + i) = w := by
          obtain ⟨y1, y2, _⟩ := r2 hth
          rw [y1, y2] at c
          by_cases q : s 1 (4 * p' + i) = w
          · exact q
          · exact absurd (if_neg (fun z => q z.2)) c
        rw [if_pos hpq] at ih2
        refine m_massOf (by omega) (hf.shp hS) hA1 hI hs1 hw hp' hi hth (fun M2 hf2 => ⟨_, rfl, hf2.shp (hf.shp hS), ?_⟩)
        rw [w64_i (by omega) (by omega), w32s (by omega)]
        exact ⟨⟨by omega, by omega⟩, ih2 M2 (hf.trans hf2)⟩
theorem m_doesFloat {p : Nat} (hd : 16 ≤ d) (hS : Shp M) (hA : IM M I) (hI : WI I) (hs : MR M I.np s) (hw : WS I.np s) (hp : p < I.np)
    (h : ∀ M', Fr Mp M M' → Q (some (vI (if flS (pW I s) p then 1 else 0))) M') : Call d mX11_doesFloat [vR 468, vI (p : Int)] M Q := by
  obtain ⟨e, rfl⟩ := dd (d := d) (by omega)
  refine vn_doesFloat (by omega) hS (m_weightOf (by omega) hS hA hI hs hw hp (fun M' hf => ⟨_, rfl, hf.shp hS, ?_⟩))
  have h7 := hw.2.2.2.1
  rw [hf.eiv (r := 486) (by unfold Mp; omega), hs.2.2.1, w64_i (by omega) (by omega)]
  refine (congrArg (fun z => Q (some (vI z)) M') ?_).mp (h M' hf)
  unfold flS
  have : (pW I s) 0 7 = s 0 7 := rfl
  rw [this]
  simp only [jcmp_ge, decide_eq_true_eq]
  split <;> split <;> first | rfl | omega
theorem m_doesSink {p : Nat} (hd : 16 ≤ d) (hS : Shp M) (hA : IM M I) (hI : WI I) (hs : MR M I.np s) (hw : WS I.np s) (hp : p < I.np)
    (h : ∀ M', Fr Mp M M' → Q (some (vI (if skS I (pW I s) p then 1 else 0))) M') : Call d mX11_doesSink [vR 468, vI (p : Int)] M Q := by
  obtain ⟨e, rfl⟩ := dd (d := d) (by omega)
  refine vn_doesSink (by omega) hS (m_weightOf (by omega) hS hA hI hs hw hp (fun M' hf => ⟨_, rfl, hf.shp hS, ?_⟩))
  have h7 := hI.2.2.2.1
  rw [hf.eiv (r := 482) (by unfold Mp; omega), hA.2.2.1, w64_i (by omega) (by omega)]
  refine (congrArg (fun z => Q (some (vI z)) M') ?_).mp (h M' hf)
  unfold skS
  simp only [jcmp_le, decide_eq_true_eq]
  split <;> split <;> first | rfl | omega
end MWeigh
