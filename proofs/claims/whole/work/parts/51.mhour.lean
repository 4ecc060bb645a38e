/-! hours: what they do to a state; THE MODEL's hours -/
section PPr
variable {I : jI} {s : jS} {i n : Nat}
theorem pP_1 : pP s 1 i = if s 5 i = 0 then -1 else s 1 i := by unfold pP; simp
theorem pP_2 : pP s 2 i = s 2 i := by unfold pP; simp
theorem pP_3 : pP s 3 i = s 3 i := by unfold pP; simp
theorem pP_4 : pP s 4 i = if s 5 i ≠ 0 ∧ s 4 i < 99 then s 4 i + 1 else s 4 i := by unfold pP; simp
theorem pP_6 : pP s 6 i = s 6 i := by unfold pP; simp
theorem pP_7 : pP s 7 i = s 7 i := by unfold pP; simp
theorem pP_07 : pP s 0 7 = s 0 7 := by unfold pP; simp
theorem pP_08 : pP s 0 8 = s 0 8 := by unfold pP; simp
theorem pP_09 : pP s 0 9 = s 0 9 + 1 := by unfold pP; simp
theorem pW_n {f : Nat} (h : f ≠ 5) : pW I s f i = s f i := if_neg h
theorem pW_5 : pW I s 5 i = massS I s i := rfl
/-- an hour for the thoughts, weighed -/
def pL (I : jI) (s : jS) : jS := pP (pW I s)
theorem pL_1 : pL I s 1 i = if massS I s i = 0 then -1 else s 1 i := pP_1
theorem pL_2 : pL I s 2 i = s 2 i := pP_2
theorem pL_3 : pL I s 3 i = s 3 i := pP_3
theorem pL_4 : pL I s 4 i = if massS I s i ≠ 0 ∧ s 4 i < 99 then s 4 i + 1 else s 4 i := pP_4
theorem pL_6 : pL I s 6 i = s 6 i := pP_6
theorem pL_7 : pL I s 7 i = s 7 i := pP_7
theorem pL_07 : pL I s 0 7 = s 0 7 := pP_07
theorem pL_08 : pL I s 0 8 = s 0 8 := pP_08
theorem pL_09 : pL I s 0 9 = s 0 9 + 1 := pP_09
theorem massS_no (h : s 1 i = -1) : massS I s i = 0 := if_pos h
theorem WS.pP (hw : WS n s) (h9 : s 0 9 < 20000) : WS n (pP s) := by
  obtain ⟨w1, w2, w3, w4, w5, w6⟩ := hw
  refine ⟨fun i hi => ?_, fun i hi hn => ?_, fun i hi => ?_, ?_, ?_, ?_⟩
  · have := w1 i hi
    rw [pP_1, pP_2, pP_3, pP_4]
    split <;> split <;> omega
  · rw [pP_1, w2 i hi hn]; split <;> rfl
  · rw [pP_6]; exact w3 i hi
  · rw [pP_07]; exact w4
  · rw [pP_08]; exact w5
  · rw [pP_09]; omega
theorem WS.pL (hw : WS n s) (h9 : s 0 9 < 20000) : WS n (pL I s) := WS.pP (s := pW I s) hw h9
/-- the thoughts ahead of the k-th have lived their hour -/
def pLk (I : jI) (s : jS) (k : Nat) : jS := fun f i => if (f = 1 ∨ f = 4) ∧ i < k then pL I s f i else s f i
theorem pLk_o {k f : Nat} (h : f ≠ 1 ∧ f ≠ 4) : pLk I s k f i = s f i := if_neg (by omega)
theorem pLk_lt {k f : Nat} (hf : f = 1 ∨ f = 4) (h : i < k) : pLk I s k f i = pL I s f i := if_pos ⟨hf, h⟩
theorem pLk_ge {k f : Nat} (h : k ≤ i) : pLk I s k f i = s f i := if_neg (by omega)
theorem WS.pLk {k : Nat} (hw : WS n s) : WS n (pLk I s k) := by
  obtain ⟨w1, w2, w3, w4, w5, w6⟩ := hw
  refine ⟨fun i hi => ?_, fun i hi hn => ?_, fun i hi => ?_, ?_, ?_, ?_⟩
  · have := w1 i hi
    rw [pLk_o (f := 2) (by decide), pLk_o (f := 3) (by decide)]
    by_cases c : i < k
    · rw [pLk_lt (Or.inl rfl) c, pLk_lt (Or.inr rfl) c, pL_1, pL_4]
      split <;> split <;> omega
    · rw [pLk_ge (by omega), pLk_ge (by omega)]
      exact this
  · by_cases c : i < k
    · rw [pLk_lt (Or.inl rfl) c, pL_1, w2 i hi hn]; split <;> rfl
    · rw [pLk_ge (by omega)]; exact w2 i hi hn
  · rw [pLk_o (by decide)]; exact w3 i hi
  · rw [pLk_o (by decide)]; exact w4
  · rw [pLk_o (by decide)]; exact w5
  · rw [pLk_o (by decide)]; exact w6
theorem massS_pLk {k : Nat} (h : k ≤ i) : massS I (pLk I s k) i = massS I s i := by
  unfold massS
  rw [pLk_ge (f := 1) h, pLk_o (f := 2) (by decide), pLk_o (f := 3) (by decide), pLk_ge (f := 4) h, pLk_o (f := 0) (by decide), pLk_o (f := 0) (by decide)]
end PPr
section MHour
variable {d : Nat} {M : jM} {Q : Option jV → jM → Prop} {I : jI} {s : jS} {n : Nat}
theorem m_live (hd : 14 ≤ d) (hS : Shp M) (hA : IM M I) (hI : WI I) (hs : MR M I.np s) (hw : WS I.np s) (h : ∀ M', FL M M' → MR M' I.np (pL I s) → Q none M') : Call d mX11_live [vR 468] M Q := by
  obtain ⟨e, rfl⟩ := dd (d := d) (by omega)
  have hnp := hI.1
  have h9 := hw.2.2.2.2.2
  refine vn_live (by omega) hS ?_
  refine up_to (R := fun p => ∀ M1 l2 l3, FL M M1 → MR M1 I.np (pLk I s (4 * p)) → Run (e + 1) mX11_live 2 [some (vR 468), some (vI (p : Int)), l2, l3] [] M1 Q) I.np ?_ ?_ M _ _ FL.refl ?_
  · intro M1 l2 l3 hf hm
    have e25 : iv M1 468 25 = I.np := (hf.im hA).1
    refine vn_live_2 (by omega) (hf.shp hS) ⟨fun _ => ?_, fun c => absurd c (by omega)⟩
    intro N2 hN2 sN2
    have e170 : iv M1 486 170 = s 0 9 := by rw [hm.2.2.2.2, pLk_o (by decide)]
    rw [e170, w32_i (by omega) (by omega)] at hN2
    refine h N2 (by rw [hN2]; exact hf.si (by omega)) ?_
    have hx : ∀ i, i ≠ 170 → iv N2 486 i = iv M1 486 i := by
      intro i hi
      rw [hN2, iv_si, if_neg (by omega)]
    obtain ⟨a1, a2, a3, a4, a5⟩ := hm
    refine ⟨fun j hj => ?_, fun p hp => ?_, ?_, ?_, ?_⟩
    · rw [hx _ (by omega), hx _ (by omega), hx _ (by omega), hx _ (by omega), hx _ (by omega)]
      have b := a1 j hj
      rw [pLk_o (f := 2) (by decide), pLk_o (f := 3) (by decide)] at b
      rw [pL_2, pL_3]
      by_cases c : j < 4 * I.np
      · rw [pLk_lt (Or.inl rfl) c, pLk_lt (Or.inr rfl) c] at b
        exact b
      · rw [pLk_ge (by omega), pLk_ge (by omega)] at b
        have hno := hw.2.1 j hj (by omega)
        have : pL I s 1 j = -1 := by rw [pL_1, massS_no hno, if_pos rfl]
        rw [this]
        exact ⟨fun _ => b.1 hno, fun z => absurd rfl z⟩
    · rw [hx _ (by omega), pL_6]
      have := a2 p hp
      rw [pLk_o (by decide)] at this
      exact this
    · rw [hx _ (by omega), pL_07, a3, pLk_o (by decide)]
    · rw [hx _ (by omega), pL_08, a4, pLk_o (by decide)]
    · rw [hN2, iv_si, if_pos ⟨rfl, rfl⟩, pL_09]
  · intro p hp ih M1 l2 l3 hf hm
    have e25 : iv M1 468 25 = I.np := (hf.im hA).1
    refine vn_live_2 (by omega) (hf.shp hS) ⟨fun c => absurd c (by omega), fun _ => ?_⟩
    refine up_to (R := fun i => ∀ M1 l3, FL M M1 → MR M1 I.np (pLk I s (4 * p + i)) → Run (e + 1) mX11_live 12 [some (vR 468), some (vI (p : Int)), some (vI (i : Int)), l3] [] M1 Q) 4 ?_ ?_ M1 _ hf hm
    · intro M1 l3 hf hm
      refine vn_live_12 (by omega) (hf.shp hS) ⟨fun _ => ?_, fun c => absurd c (by decide)⟩
      rw [w32s (by omega)]
      exact ih M1 _ _ hf hm
    · intro i hi ih2 M1 l3 hf hm
      have hj : 4 * p + i < 32 := by omega
      obtain ⟨r1, r2⟩ := hm.1 (4 * p + i) hj
      rw [pLk_ge (f := 1) (Nat.le_refl _), pLk_ge (f := 4) (Nat.le_refl _), pLk_o (f := 2) (by decide), pLk_o (f := 3) (by decide)] at *
      have x0 : (20 * (p : Int) + 5 * (i : Int) + 0).toNat = 5 * (4 * p + i) := by omega
      have x4 : (20 * (p : Int) + 5 * (i : Int) + 4).toNat = 5 * (4 * p + i) + 4 := by omega
      rw [show 4 * p + (i + 1) = 4 * p + i + 1 by omega] at ih2
      have same : ∀ g x, (x ≠ 4 * p + i ∨ g = 0 ∨ 5 ≤ g) → pLk I s (4 * p + i + 1) g x = pLk I s (4 * p + i) g x := by
        intro g x hg
        unfold pLk
        by_cases c : (g = 1 ∨ g = 4) ∧ x < 4 * p + i
        · rw [if_pos c, if_pos ⟨c.1, by omega⟩]
        · rw [if_neg c, if_neg (by omega)]
      have at1 : pLk I s (4 * p + i + 1) 1 (4 * p + i) = pL I s 1 (4 * p + i) := pLk_lt (Or.inl rfl) (by omega)
      have at4 : pLk I s (4 * p + i + 1) 4 (4 * p + i) = pL I s 4 (4 * p + i) := pLk_lt (Or.inr rfl) (by omega)
      refine vn_live_12 (by omega) (hf.shp hS) ⟨fun c => absurd c (by omega), fun _ => ⟨⟨⟨by omega, by omega⟩, by omega, by omega⟩, fun c => ?_, fun c => ?_⟩⟩
      · rw [x0] at c
        have hno : s 1 (4 * p + i) = -1 := by
          by_cases z : s 1 (4 * p + i) = -1
          · exact z
          · exact absurd (r2 z).1 c
        rw [w32s (by omega)]
        refine ih2 M1 _ hf (MRf.upd (MR_f.mp hm) hnp hj (fun _ _ _ => rfl) same ?_)
        rw [at1, pL_1, massS_no hno, if_pos rfl]
        exact ⟨fun _ => r1 hno, fun z => absurd rfl z⟩
      · rw [x0] at c
        have hth : s 1 (4 * p + i) ≠ -1 := by
          intro z
          rw [r1 z] at c
          exact c (by decide)
        obtain ⟨y1, y2, y3, y4, y5⟩ := r2 hth
        have wj := hw.1 (4 * p + i) hj
        refine m_massOf (by omega) (hf.shp hS) (hf.im hA) hI hm hw.pLk hp hi (by rw [pLk_ge (Nat.le_refl _)]; exact hth) (fun M2 hf2 => ⟨_, rfl, hf2.shp (hf.shp hS), ?_⟩)
        rw [massS_pLk (Nat.le_refl _)]
        have f2 : FL M M2 := hf.trans (FL.mp hf2)
        have k2 : iv M2 486 = iv M1 486 := hf2.eiv (by unfold Mp; omega)
        intro N14 hN14 sN14 v16 hv16 N17 hN17 sN17
        rw [x0] at hN14
        rw [x4] at hv16 hN17
        have eage : iv N14 486 (5 * (4 * p + i) + 4) = s 4 (4 * p + i) := by rw [hN14, iv_si, if_neg (by omega), k2]; exact y5
        rw [eage, w32_i (by omega) (by omega)] at hv16
        rw [w32s (by omega)]
        have hv : ∀ x, iv N17 486 x = if x = 5 * (4 * p + i) + 4 then v16 else if x = 5 * (4 * p + i) then (if massS I s (4 * p + i) = 0 then 0 else 1) else iv M1 486 x := by
          intro x
          rw [hN17, hN14]
          simp only [iv_si, true_and, k2, jcmp_eq]
          by_cases z : massS I s (4 * p + i) = 0
          · simp [z, jcmp_eq]
          · simp [z, jcmp_eq]
        refine ih2 N17 _ (by rw [hN17, hN14]; exact (f2.si (by omega)).si (by omega)) (MRf.upd (MR_f.mp hm) hnp hj (fun x hx hx2 => ?_) same ?_)
        · rw [hv, if_neg (by omega), if_neg (by omega)]
        · rw [at1, at4, pLk_o (f := 2) (by decide), pLk_o (f := 3) (by decide), pL_1, pL_4]
          by_cases z : massS I s (4 * p + i) = 0
          · rw [if_pos z]
            refine ⟨fun _ => ?_, fun z => absurd rfl z⟩
            rw [hv, if_neg (by omega), if_pos rfl, if_pos z]
          · rw [if_neg z]
            refine ⟨fun q => absurd q hth, fun _ => ⟨?_, ?_, ?_, ?_, ?_⟩⟩
            · rw [hv, if_neg (by omega), if_pos rfl, if_neg z]
            · rw [hv, if_neg (by omega), if_neg (by omega)]; exact y2
            · rw [hv, if_neg (by omega), if_neg (by omega)]; exact y3
            · rw [hv, if_neg (by omega), if_neg (by omega)]; exact y4
            · rw [hv, if_pos rfl, hv16]
              split <;> split <;> omega
  · refine MRf.sc (MR_f.mp hs) (fun j hj => ?_) (fun p hp => ?_) ?_ ?_ ?_
    · rw [pLk_ge (by omega), pLk_ge (f := 4) (by omega), pLk_o (f := 2) (by decide), pLk_o (f := 3) (by decide)]
      exact ⟨rfl, fun _ => ⟨rfl, rfl, rfl⟩⟩
    · exact pLk_o (by decide)
    · exact pLk_o (by decide)
    · exact pLk_o (by decide)
    · exact pLk_o (by decide)
/-- how long the log is -/
def hl (s : jS) : Int := if 60 ≤ s 0 9 then 60 else s 0 9
/-- what an hour puts into the log -/
def pkd (I : jI) (u : jS) : Int := bitF (flS (pW I u)) I.np + bitF (skS I (pW I u)) I.np * 256 + cntF (u 1) 32 * 65536
def pN (I : jI) (u : jS) : jS := fun f i => if f = 7 ∧ (i : Int) = u 0 9 % 60 then pkd I u else u f i
/-- an hour -/
def pH (I : jI) (s : jS) : jS := pN I (pL I s)
def MLg (f : Nat → Int) (s : jS) : Prop := f 171 = hl s ∧ ∀ (i w : Nat), (i : Int) < hl s → w ≤ 2 → f (172 + 3 * ((hl s).toNat - 1 - i) + w) = s 7 ((s 0 9 - i) % 60).toNat / ((2 ^ (8 * w) : Nat) : Int) % 256
theorem MLg.cg {f f' : Nat → Int} {s s' : jS} (h : MLg f s) (he : ∀ i, 171 ≤ i → i < 352 → f' i = f i) (h0 : 0 ≤ s 0 9) (h9 : s' 0 9 = s 0 9) (h7 : ∀ i, i < 60 → s' 7 i = s 7 i) : MLg f' s' := by
  have hh : hl s' = hl s := by unfold hl; rw [h9]
  have hb : 0 ≤ hl s ∧ hl s ≤ 60 := by unfold hl; split <;> omega
  refine ⟨by rw [hh, he _ (by omega) (by omega)]; exact h.1, fun i w hi hw => ?_⟩
  rw [hh] at hi ⊢
  rw [he _ (by omega) (by omega), h.2 i w hi hw, h9, h7 _ (by omega)]
theorem pkd_in {u : jS} (hI : WI I) : 0 ≤ bitF (flS (pW I u)) I.np ∧ bitF (flS (pW I u)) I.np < 256 ∧ 0 ≤ bitF (skS I (pW I u)) I.np ∧ bitF (skS I (pW I u)) I.np < 256 ∧ 0 ≤ cntF (u 1) 32 ∧ cntF (u 1) 32 ≤ 32 := by
  have h1 := bitF_in (c := flS (pW I u)) I.np
  have h2 := bitF_in (c := skS I (pW I u)) I.np
  have h3 := cntF_in (w := u 1) 32
  have h4 : (2 : Nat) ^ I.np ≤ 2 ^ 8 := Nat.pow_le_pow_right (by decide) hI.1
  have h5 : (2 : Nat) ^ 8 = 256 := by decide
  omega
theorem m_passHour (hd : 19 ≤ d) (hS : Shp M) (hA : IM M I) (hI : WI I) (hs : MR M I.np s) (hw : WS I.np s) (h9 : s 0 9 < 20000) (hl0 : MLg (iv M 486) s)
    (h : ∀ M', Fr (fun r => r = 477 ∨ r = 478 ∨ r = 486) M M' → MR M' I.np (pH I s) → MLg (iv M' 486) (pH I s) → Q none M') : Call d mX11_passHour [vR 468] M Q := by
  obtain ⟨e, rfl⟩ := dd (d := d) (by omega)
  have hnp := hI.1
  have hh := hw.2.2.2.2.2
  have hwL : WS I.np (pL I s) := hw.pL h9
  have e9 : pL I s 0 9 = s 0 9 + 1 := pL_09
  have hb := pkd_in (u := pL I s) hI
  -- the tail: the log has room at the place k
  have tail : ∀ (M1 : jM) (l1 : Option jV) (k : Nat), Fr (fun r => r = 477 ∨ r = 478 ∨ r = 486) M M1 → MR M1 I.np (pL I s) → k < 60 → iv M1 486 171 = k → ((k : Int) + 1 = hl (pL I s)) →
      (∀ (i w : Nat), i < k → w ≤ 2 → iv M1 486 (172 + 3 * (k - 1 - i) + w) = s 7 ((s 0 9 - i) % 60).toNat / ((2 ^ (8 * w) : Nat) : Int) % 256) → Run (e + 1) mX11_passHour 66 [some (vR 468), l1] [] M1 Q := by
    intro M1 l1 k hf hm hk h171 hkl hlog
    have hA1 : IM M1 I := hA.fr hf (by intro r hr; omega)
    have sM1 := hf.shp hS
    refine vn_passHour_66 (by omega) sM1 (m_floating (by omega) sM1 hA1 hI hm hwL (fun M2 hf2 => ⟨_, rfl, hf2.shp sM1, ?_⟩))
    rw [h171, w32_i (z := 3 * (k : Int)) (by omega) (by omega), w32_i (z := 172 + 3 * (k : Int)) (by omega) (by omega), show (172 + 3 * (k : Int)).toNat = 172 + 3 * k by omega, w32_i (z := 172 + 3 * (k : Int) + 1) (by omega) (by omega), w32_i (z := 172 + 3 * (k : Int) + 2) (by omega) (by omega)]
    refine ⟨⟨by omega, by omega⟩, fun N1 hN1 sN1 v1 hv1 => ?_⟩
    have k2 : iv M2 486 = iv M1 486 := hf2.eiv (by unfold Mp; omega)
    have f2 : Fr (fun r => r = 477 ∨ r = 478 ∨ r = 486) M M2 := hf.trans (hf2.mono (by intro r hr; unfold Mp at hr; omega))
    have g1 : Fr (fun r => r = 477 ∨ r = 478 ∨ r = 486) M N1 := by rw [hN1]; exact f2.ps (by omega)
    have v1x : ∀ x, iv N1 486 x = if x = 172 + 3 * k then bitF (flS (pW I (pL I s))) I.np else iv M1 486 x := by
      intro x; rw [hN1]; simp only [iv_si, true_and, k2]
    have m1 : MR N1 I.np (pL I s) := MRf.cg (MR_f.mp hm) hnp (fun x hx => by rw [v1x, if_neg (by omega)])
    refine m_sinking (by omega) sN1 (hA.fr g1 (by intro r hr; omega)) hI m1 hwL (fun M3 hf3 => ⟨_, rfl, hf3.shp sN1, ?_⟩)
    refine ⟨by omega, fun N2 hN2 sN2 v2 hv2 => ?_⟩
    rw [hv1, show (172 + 3 * (k : Int) + 1).toNat = 172 + 3 * k + 1 by omega] at hN2
    have k3 : iv M3 486 = iv N1 486 := hf3.eiv (by unfold Mp; omega)
    have f3 : Fr (fun r => r = 477 ∨ r = 478 ∨ r = 486) M M3 := g1.trans (hf3.mono (by intro r hr; unfold Mp at hr; omega))
    have g2 : Fr (fun r => r = 477 ∨ r = 478 ∨ r = 486) M N2 := by rw [hN2]; exact f3.ps (by omega)
    have v2x : ∀ x, iv N2 486 x = if x = 172 + 3 * k + 1 then bitF (skS I (pW I (pL I s))) I.np else iv N1 486 x := by
      intro x; rw [hN2]; simp only [iv_si, true_and, k3]
    have m2 : MR N2 I.np (pL I s) := MRf.cg (MR_f.mp m1) hnp (fun x hx => by rw [v2x, if_neg (by omega)])
    refine m_thoughtMany (by omega) sN2 (hA.fr g2 (by intro r hr; omega)) hI m2 hwL ⟨_, rfl, sN2, ?_⟩
    refine ⟨by omega, fun N3 hN3 sN3 N4 hN4 sN4 => ?_⟩
    rw [hv2, show (172 + 3 * (k : Int) + 2).toNat = 172 + 3 * k + 2 by omega] at hN3
    have v3x : ∀ x, iv N3 486 x = if x = 172 + 3 * k + 2 then cntF (pL I s 1) 32 else iv N2 486 x := by
      intro x; rw [hN3]; simp only [iv_si, true_and]
    have e171 : iv N3 486 171 = k := by rw [v3x, if_neg (by omega), v2x, if_neg (by omega), v1x, if_neg (by omega), h171]
    rw [e171, w32_i (by omega) (by omega)] at hN4
    have v4x : ∀ x, iv N4 486 x = if x = 171 then (k : Int) + 1 else iv N3 486 x := by
      intro x; rw [hN4]; simp only [iv_si, true_and]
    have m4 : MR N4 I.np (pL I s) := MRf.cg (MR_f.mp m2) hnp (fun x hx => by rw [v4x, if_neg (by omega), v3x, if_neg (by omega)])
    refine h N4 (by rw [hN4, hN3]; exact (g2.ps (by omega)).ps (by omega)) (MRf.sc (MR_f.mp m4) (fun j hj => ⟨rfl, fun _ => ⟨rfl, rfl, rfl⟩⟩) (fun p hp => rfl) rfl rfl rfl) ?_
    have hlH : hl (pH I s) = (k : Int) + 1 := hkl.symm
    have e9H : pH I s 0 9 = s 0 9 + 1 := pL_09
    refine ⟨by rw [hlH, v4x, if_pos rfl], fun i w hi hw2 => ?_⟩
    rw [hlH] at hi ⊢
    rw [show ((k : Int) + 1).toNat - 1 - i = k - i by omega, e9H]
    have h7 : pH I s 7 ((s 0 9 + 1 - i) % 60).toNat = if i = 0 then pkd I (pL I s) else s 7 ((s 0 9 + 1 - i) % 60).toNat := by
      show (if 7 = 7 ∧ ((((s 0 9 + 1 - i) % 60).toNat : Nat) : Int) = pL I s 0 9 % 60 then pkd I (pL I s) else pL I s 7 ((s 0 9 + 1 - i) % 60).toNat) = _
      rw [e9, pL_7]
      by_cases c : i = 0
      · rw [if_pos c, if_pos ⟨rfl, by omega⟩]
      · rw [if_neg c, if_neg (by omega)]
    rw [h7]
    have w3 : w = 0 ∨ w = 1 ∨ w = 2 := by omega
    by_cases c : i = 0
    · rw [if_pos c, c]
      unfold pkd
      have p0 : ((2 ^ (8 * 0) : Nat) : Int) = 1 := rfl
      have p1 : ((2 ^ (8 * 1) : Nat) : Int) = 256 := rfl
      have p2 : ((2 ^ (8 * 2) : Nat) : Int) = 65536 := rfl
      rcases w3 with rfl | rfl | rfl
      · rw [p0, v4x, if_neg (by omega), v3x, if_neg (by omega), v2x, if_neg (by omega), v1x, if_pos (by omega)]; omega
      · rw [p1, v4x, if_neg (by omega), v3x, if_neg (by omega), v2x, if_pos (by omega)]; omega
      · rw [p2, v4x, if_neg (by omega), v3x, if_pos (by omega)]; omega
    · rw [if_neg c, v4x, if_neg (by omega), v3x, if_neg (by omega), v2x, if_neg (by omega), v1x, if_neg (by omega)]
      have := hlog (i - 1) w (by omega) hw2
      rw [show 172 + 3 * (k - i) + w = 172 + 3 * (k - 1 - (i - 1)) + w by omega, this]
      congr 3
      omega
  refine vn_passHour (by omega) hS (m_live (by omega) hS hA hI hs hw (fun M1 hf1 hm1 => ⟨rfl, hf1.shp hS, ?_⟩))
  have sM1 := hf1.shp hS
  have e171 : iv M1 486 171 = hl s := by rw [hf1.2 171 (by omega)]; exact hl0.1
  have hlog : ∀ (i w : Nat), (i : Int) < hl s → w ≤ 2 → iv M1 486 (172 + 3 * ((hl s).toNat - 1 - i) + w) = s 7 ((s 0 9 - i) % 60).toNat / ((2 ^ (8 * w) : Nat) : Int) % 256 := by
    intro i w hi hw2
    rw [hf1.2 _ (by omega)]
    exact hl0.2 i w hi hw2
  rw [e171]
  refine ⟨fun c => ?_, fun c => ?_⟩
  · have hlt : s 0 9 < 60 := by unfold hl at c; split at c <;> omega
    have hlv : hl s = s 0 9 := by unfold hl; rw [if_neg (by omega)]
    refine tail M1 _ (s 0 9).toNat hf1.1 hm1 (by omega) (by rw [e171, hlv]; omega) (by unfold hl; rw [e9]; split <;> omega) (fun i w hi hw2 => ?_)
    have := hlog i w (by omega) hw2
    rw [hlv] at this
    exact this
  · have hge : 60 ≤ s 0 9 := by unfold hl at c; split at c <;> omega
    have hlv : hl s = 60 := by unfold hl; rw [if_pos hge]
    have lp : ∀ (j k : Nat) (M2 : jM), 3 ≤ k → k ≤ 180 → 180 - k = j → Fr (fun r => r = 477 ∨ r = 478 ∨ r = 486) M M2 → (∀ x, iv M2 486 x = if 172 ≤ x ∧ x + 3 < 172 + k then iv M1 486 (x + 3) else iv M1 486 x) → Run (e + 1) mX11_passHour 19 [some (vR 468), some (vI (k : Int))] [] M2 Q := by
      intro j
      induction j with
      | zero =>
        intro k M2 h3 h180 hj hf2 hx
        obtain rfl : k = 180 := by omega
        refine vn_passHour_19 (by omega) (hf2.shp hS) ⟨fun _ => ?_, fun c => absurd c (by decide)⟩
        intro N hN sN
        rw [hx, if_neg (by omega), e171, hlv] at hN
        have hNx : ∀ x, iv N 486 x = if x = 171 then 59 else iv M2 486 x := by
          intro x; rw [hN]; simp only [iv_si, true_and]; rfl
        refine tail N _ 59 (by rw [hN]; exact hf2.ps (by omega)) (MRf.cg (MR_f.mp hm1) hnp (fun x hx2 => by rw [hNx, if_neg (by omega), hx, if_neg (by omega)])) (by omega) (by rw [hNx, if_pos rfl]; rfl) (by unfold hl; rw [e9, if_pos (by omega)]; rfl) (fun i w hi hw2 => ?_)
        rw [hNx, if_neg (by omega), hx, if_pos (by omega)]
        have := hlog i w (by omega) hw2
        rw [hlv] at this
        rw [show 172 + 3 * (59 - 1 - i) + w + 3 = 172 + 3 * ((60 : Int).toNat - 1 - i) + w by omega]
        exact this
      | succ j ih =>
        intro k M2 h3 h180 hj hf2 hx
        refine vn_passHour_19 (by omega) (hf2.shp hS) ⟨fun c => absurd c (by omega), fun _ => ?_⟩
        rw [w32_i (z := 172 + (k : Int)) (by omega) (by omega), w32_i (z := 172 + (k : Int) - 3) (by omega) (by omega), w32s (by omega), show (172 + (k : Int) - 3).toNat = 169 + k by omega, show (172 + (k : Int)).toNat = 172 + k by omega]
        refine ⟨by omega, by omega, fun N hN sN => ih (k + 1) N (by omega) (by omega) (by omega) (by rw [hN]; exact hf2.ps (by omega)) (fun x => ?_)⟩
        rw [hN]
        simp only [iv_si, true_and]
        rw [hx, hx, if_neg (by omega : ¬ (172 ≤ 172 + k ∧ 172 + k + 3 < 172 + k))]
        by_cases c1 : x = 169 + k
        · rw [if_pos c1, if_pos (by omega)]
          congr 1
          omega
        · rw [if_neg c1]
          by_cases c2 : 172 ≤ x ∧ x + 3 < 172 + k
          · rw [if_pos c2, if_pos (by omega)]
          · rw [if_neg c2, if_neg (by omega)]
    exact lp _ 3 M1 (by omega) (by omega) rfl hf1.1 (fun x => by rw [if_neg (by omega)])
end MHour
