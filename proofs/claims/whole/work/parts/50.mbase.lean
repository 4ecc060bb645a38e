/-! THE MODEL: states, hours -/
def FL (M M' : jM) : Prop := Fr (fun r => r = 477 ∨ r = 478 ∨ r = 486) M M' ∧ ∀ i, 171 ≤ i → iv M' 486 i = iv M 486 i
theorem FL.refl {M : jM} : FL M M := ⟨Fr.refl, fun _ _ => rfl⟩
theorem FL.trans {M M1 M2 : jM} (h : FL M M1) (k : FL M1 M2) : FL M M2 := ⟨h.1.trans k.1, fun i hi => (k.2 i hi).trans (h.2 i hi)⟩
theorem FL.mp {M M' : jM} (h : Fr Mp M M') : FL M M' := ⟨h.mono (by intro r hr; unfold Mp at hr; omega), fun i _ => by rw [h.eiv (by unfold Mp; omega)]⟩
theorem FL.im {M M' : jM} {I : jI} (h : FL M M') (hA : IM M I) : IM M' I := hA.fr h.1 (by intro r hr; omega)
theorem FL.shp {M M' : jM} (h : FL M M') (hS : Shp M) : Shp M' := h.1.shp hS
theorem FL.si {M M1 : jM} {i : Nat} {v : Int} (h : FL M M1) (hi : i < 171) : FL M (si M1 486 i v) := ⟨h.1.ps (Or.inr (Or.inr rfl)), fun j hj => by
  rw [iv_si, if_neg (by omega)]; exact h.2 j hj⟩
/-- the model's picture of a state, in any row -/
def MRf (f : Nat → Int) (n : Nat) (s : jS) : Prop := (∀ j, j < 32 → (s 1 j = -1 → f (5 * j) = 0) ∧ (s 1 j ≠ -1 → f (5 * j) = 1 ∧ f (5 * j + 1) = s 1 j ∧ f (5 * j + 2) = s 2 j ∧ f (5 * j + 3) = s 3 j ∧ f (5 * j + 4) = s 4 j)) ∧ (∀ p, p < n → f (160 + p) = s 6 p) ∧ f 168 = s 0 7 ∧ f 169 = s 0 8 ∧ f 170 = s 0 9
theorem MR_f {M : jM} {n : Nat} {s : jS} : MR M n s ↔ MRf (iv M 486) n s := Iff.rfl
theorem MRf.cg {f f' : Nat → Int} {n : Nat} {s : jS} (h : MRf f n s) (hn : n ≤ 8) (he : ∀ i, i < 171 → f' i = f i) : MRf f' n s := by
  obtain ⟨a1, a2, a3, a4, a5⟩ := h
  refine ⟨fun j hj => ?_, fun p hp => by rw [he _ (by omega)]; exact a2 p hp, by rw [he _ (by omega)]; exact a3, by rw [he _ (by omega)]; exact a4, by rw [he _ (by omega)]; exact a5⟩
  rw [he _ (by omega), he _ (by omega), he _ (by omega), he _ (by omega), he _ (by omega)]
  exact a1 j hj
theorem MRf.sc {f : Nat → Int} {n : Nat} {s s' : jS} (h : MRf f n s) (h1 : ∀ j, j < 32 → s' 1 j = s 1 j ∧ (s 1 j ≠ -1 → s' 2 j = s 2 j ∧ s' 3 j = s 3 j ∧ s' 4 j = s 4 j)) (h6 : ∀ p, p < n → s' 6 p = s 6 p) (h7 : s' 0 7 = s 0 7) (h8 : s' 0 8 = s 0 8) (h9 : s' 0 9 = s 0 9) : MRf f n s' := by
  obtain ⟨a1, a2, a3, a4, a5⟩ := h
  refine ⟨fun j hj => ?_, fun p hp => by rw [h6 p hp]; exact a2 p hp, by rw [h7]; exact a3, by rw [h8]; exact a4, by rw [h9]; exact a5⟩
  obtain ⟨b1, b2⟩ := h1 j hj
  obtain ⟨c1, c2⟩ := a1 j hj
  rw [b1]
  refine ⟨c1, fun z => ?_⟩
  obtain ⟨d1, d2, d3⟩ := b2 z
  rw [d1, d2, d3]
  exact c2 z
/-- one thought is other -/
theorem MRf.upd {f f' : Nat → Int} {n j : Nat} {s s' : jS} (h : MRf f n s) (hn : n ≤ 8) (hj : j < 32) (he : ∀ i, i < 171 → (i < 5 * j ∨ 5 * j + 5 ≤ i) → f' i = f i) (hs : ∀ g i, (i ≠ j ∨ g = 0 ∨ 5 ≤ g) → s' g i = s g i)
    (hv : (s' 1 j = -1 → f' (5 * j) = 0) ∧ (s' 1 j ≠ -1 → f' (5 * j) = 1 ∧ f' (5 * j + 1) = s' 1 j ∧ f' (5 * j + 2) = s' 2 j ∧ f' (5 * j + 3) = s' 3 j ∧ f' (5 * j + 4) = s' 4 j)) : MRf f' n s' := by
  obtain ⟨a1, a2, a3, a4, a5⟩ := h
  refine ⟨fun i hi => ?_, fun p hp => ?_, ?_, ?_, ?_⟩
  · by_cases c : i = j
    · rw [c]; exact hv
    · rw [hs 1 i (Or.inl c), hs 2 i (Or.inl c), hs 3 i (Or.inl c), hs 4 i (Or.inl c), he (5 * i) (by omega) (by omega), he (5 * i + 1) (by omega) (by omega), he (5 * i + 2) (by omega) (by omega), he (5 * i + 3) (by omega) (by omega), he (5 * i + 4) (by omega) (by omega)]
      exact a1 i hi
  · rw [hs 6 p (by omega), he _ (by omega) (by omega)]; exact a2 p hp
  · rw [hs 0 7 (by omega), he _ (by omega) (by omega)]; exact a3
  · rw [hs 0 8 (by omega), he _ (by omega) (by omega)]; exact a4
  · rw [hs 0 9 (by omega), he _ (by omega) (by omega)]; exact a5
/-- only thoughts are other -/
def FP (M M' : jM) : Prop := Fr (fun r => r = 486) M M' ∧ ∀ i, 171 ≤ i → iv M' 486 i = iv M 486 i
theorem FP.refl {M : jM} : FP M M := ⟨Fr.refl, fun _ _ => rfl⟩
theorem FP.trans {M M1 M2 : jM} (h : FP M M1) (k : FP M1 M2) : FP M M2 := ⟨h.1.trans k.1, fun i hi => (k.2 i hi).trans (h.2 i hi)⟩
theorem FP.fl {M M' : jM} (h : FP M M') : FL M M' := ⟨h.1.mono (by intro r hr; omega), h.2⟩
theorem FP.shp {M M' : jM} (h : FP M M') (hS : Shp M) : Shp M' := h.1.shp hS
theorem FP.si {M M1 : jM} {i : Nat} {v : Int} (h : FP M M1) (hi : i < 171) : FP M (si M1 486 i v) := ⟨h.1.ps rfl, fun j hj => by
  rw [iv_si, if_neg (by omega)]; exact h.2 j hj⟩
section MBase
variable {d : Nat} {M : jM} {Q : Option jV → jM → Prop} {I : jI} {s : jS} {n : Nat}
theorem fE_in (w : Nat → Int) (q : Nat) : -1 ≤ fE w q ∧ fE w q < 4 := by
  unfold fE
  repeat' split
  all_goals omega
theorem fE_at {w : Nat → Int} {q : Nat} (h : fE w q ≠ -1) : w (4 * q + (fE w q).toNat) = -1 := by
  unfold fE at h ⊢
  repeat' split at h
  · rename_i a; simpa [a] using a
  · rename_i b a; simpa [b, a] using a
  · rename_i c b a; simpa [c, b, a] using a
  · rename_i f c b a; simpa [f, c, b, a] using a
  · exact absurd rfl h
theorem m_emptyIn {q : Nat} (hd : 7 ≤ d) (hS : Shp M) (hs : MR M n s) (hq : q < 8) (h : Q (some (vI (fE (s 1) q))) M) : Call d mX11_emptyIn [vR 468, vI (q : Int)] M Q := by
  obtain ⟨e, rfl⟩ := dd (d := d) (by omega)
  refine vn_emptyIn (by omega) hS ?_
  have st : ∀ i : Nat, i < 4 → (s 1 (4 * q + i) = -1 → Q (some (vI (i : Int))) M) → (s 1 (4 * q + i) ≠ -1 → Run (e + 1) mX11_emptyIn 2 [some (vR 468), some (vI (q : Int)), some (vI ((i + 1 : Nat) : Int))] [] M Q) → Run (e + 1) mX11_emptyIn 2 [some (vR 468), some (vI (q : Int)), some (vI (i : Int))] [] M Q := by
    intro i hi h1 h2
    obtain ⟨r1, r2⟩ := hs.1 (4 * q + i) (by omega)
    have x0 : (20 * (q : Int) + 5 * (i : Int) + 0).toNat = 5 * (4 * q + i) := by omega
    refine vn_emptyIn_2 (by omega) hS ⟨fun c => absurd c (by omega), fun _ => ⟨⟨⟨by omega, by omega⟩, by omega, by omega⟩, fun c => ?_, fun c => ?_⟩⟩
    · rw [x0] at c
      rw [w32s (by omega)]
      exact h2 (fun z => c (r1 z))
    · rw [x0] at c
      refine h1 ?_
      by_cases z : s 1 (4 * q + i) = -1
      · exact z
      · exact absurd (r2 z).1 (by omega)
  unfold fE at h
  refine st 0 (by omega) (fun z => ?_) (fun z0 => st 1 (by omega) (fun z => ?_) (fun z1 => st 2 (by omega) (fun z => ?_) (fun z2 => st 3 (by omega) (fun z => ?_) (fun z3 => ?_))))
  · rw [if_pos (by simpa using z)] at h; exact h
  · rw [if_neg (by simpa using z0), if_pos z] at h; exact h
  · rw [if_neg (by simpa using z0), if_neg z1, if_pos z] at h; exact h
  · rw [if_neg (by simpa using z0), if_neg z1, if_neg z2, if_pos z] at h; exact h
  · rw [if_neg (by simpa using z0), if_neg z1, if_neg z2, if_neg z3] at h
    exact vn_emptyIn_2 (by omega) hS ⟨fun _ => h, fun c => absurd (by decide) c⟩
theorem m_putThought {q : Nat} {w k t : Int} (hd : 8 ≤ d) (hS : Shp M) (hs : MR M n s) (hn : n ≤ 8) (hq : q < 8) (he : fE (s 1) q ≠ -1) (hw : w ≠ -1)
    (h : ∀ M', FP M M' → MR M' n (pLay s (4 * q + (fE (s 1) q).toNat) w k t) → Q none M') : Call d mX11_putThought [vR 468, vI (q : Int), vI w, vI k, vI t] M Q := by
  obtain ⟨e, rfl⟩ := dd (d := d) (by omega)
  have hf := fE_in (s 1) q
  refine vn_putThought (by omega) hS (m_emptyIn (by omega) hS hs hq ⟨_, rfl, hS, ⟨⟨by omega, by omega⟩, by omega, by omega⟩, ?_⟩)
  obtain ⟨p, hp⟩ : ∃ p : Nat, fE (s 1) q = (p : Int) := ⟨(fE (s 1) q).toNat, by omega⟩
  rw [hp] at hf ⊢
  rw [hp] at h
  have x0 : (20 * (q : Int) + 5 * (p : Int) + 0).toNat = 5 * (4 * q + p) := by omega
  have x1 : (20 * (q : Int) + 5 * (p : Int) + 1).toNat = 5 * (4 * q + p) + 1 := by omega
  have x2 : (20 * (q : Int) + 5 * (p : Int) + 2).toNat = 5 * (4 * q + p) + 2 := by omega
  have x3 : (20 * (q : Int) + 5 * (p : Int) + 3).toNat = 5 * (4 * q + p) + 3 := by omega
  have x4 : (20 * (q : Int) + 5 * (p : Int) + 4).toNat = 5 * (4 * q + p) + 4 := by omega
  rw [x0, x1, x2, x3, x4]
  intro N7 hN7 sN7 N9 hN9 sN9 N11 hN11 sN11 N13 hN13 sN13 N15 hN15 sN15
  have hj : 4 * q + p < 32 := by omega
  rw [Int.toNat_natCast] at h
  generalize 4 * q + p = j at *
  refine h N15 ?_ ?_
  · rw [hN15, hN13, hN11, hN9, hN7]
    exact ((((FP.refl.si (by omega)).si (by omega)).si (by omega)).si (by omega)).si (by omega)
  · have hv : ∀ i, iv N15 486 i = if i = 5 * j + 4 then 0 else if i = 5 * j + 3 then t else if i = 5 * j + 2 then k else if i = 5 * j + 1 then w else if i = 5 * j then 1 else iv M 486 i := by
      intro i
      rw [hN15, hN13, hN11, hN9, hN7]
      simp only [iv_si, true_and]
    refine MRf.upd (MR_f.mp hs) hn hj (fun i hi hi2 => ?_) (fun g i hg => ?_) ?_
    · rw [hv, if_neg (by omega), if_neg (by omega), if_neg (by omega), if_neg (by omega), if_neg (by omega)]
    · unfold pLay
      rw [if_neg (by omega), if_neg (by omega), if_neg (by omega), if_neg (by omega)]
    · have e1 : pLay s j w k t 1 j = w := by unfold pLay; simp
      have e2 : pLay s j w k t 2 j = k := by unfold pLay; simp
      have e3 : pLay s j w k t 3 j = t := by unfold pLay; simp
      have e4 : pLay s j w k t 4 j = 0 := by unfold pLay; simp
      rw [e1, e2, e3, e4]
      refine ⟨fun z => absurd z hw, fun _ => ?_⟩
      simp [hv]
theorem m_floating (hd : 17 ≤ d) (hS : Shp M) (hA : IM M I) (hI : WI I) (hs : MR M I.np s) (hw : WS I.np s) (h : ∀ M', Fr Mp M M' → Q (some (vI (bitF (flS (pW I s)) I.np))) M') : Call d mX11_floating [vR 468] M Q := by
  obtain ⟨e, rfl⟩ := dd (d := d) (by omega)
  have hnp := hI.1
  refine vn_floating (by omega) hS ?_
  refine up_to (R := fun i => ∀ M1, Fr Mp M M1 → Run (e + 1) mX11_floating 4 [some (vR 468), some (vI (bitF (flS (pW I s)) i)), some (vI (i : Int))] [] M1 Q) I.np ?_ ?_ M Fr.refl
  · intro M1 hf
    exact vn_floating_4 (by omega) (hf.shp hS) ⟨fun _ => h M1 hf, fun c => absurd c (by rw [hf.eiv (r := 468) (by unfold Mp; omega), hA.1]; omega)⟩
  · intro i hi ih M1 hf
    have hb := bitF_in (c := flS (pW I s)) i
    refine vn_floating_4 (by omega) (hf.shp hS) ⟨fun c => absurd c (by rw [hf.eiv (r := 468) (by unfold Mp; omega), hA.1]; omega), fun _ => m_doesFloat (by omega) (hf.shp hS) (hA.fr hf (by intro r hr; unfold Mp; omega)) hI (hs.fr hf (by unfold Mp; omega)) hw hi (fun M2 hf2 => ⟨_, rfl, hf2.shp (hf.shp hS), ?_⟩)⟩
    rw [w32s (by omega)]
    have ih := ih M2 (hf.trans hf2)
    simp only [bitF] at ih
    by_cases c : flS (pW I s) i = true
    · rw [if_pos c] at ih ⊢
      rw [if_neg (by decide), jor_bit (by omega) hb]
      exact ih
    · rw [if_neg c] at ih ⊢
      have h30 : (2 : Nat) ^ i ≤ 2 ^ 8 := Nat.pow_le_pow_right (by decide) (by omega)
      rw [if_pos rfl, jor_0 ⟨hb.1, by omega⟩]
      exact ih
theorem m_sinking (hd : 17 ≤ d) (hS : Shp M) (hA : IM M I) (hI : WI I) (hs : MR M I.np s) (hw : WS I.np s) (h : ∀ M', Fr Mp M M' → Q (some (vI (bitF (skS I (pW I s)) I.np))) M') : Call d mX11_sinking [vR 468] M Q := by
  obtain ⟨e, rfl⟩ := dd (d := d) (by omega)
  have hnp := hI.1
  refine vn_sinking (by omega) hS ?_
  refine up_to (R := fun i => ∀ M1, Fr Mp M M1 → Run (e + 1) mX11_sinking 4 [some (vR 468), some (vI (bitF (skS I (pW I s)) i)), some (vI (i : Int))] [] M1 Q) I.np ?_ ?_ M Fr.refl
  · intro M1 hf
    exact vn_sinking_4 (by omega) (hf.shp hS) ⟨fun _ => h M1 hf, fun c => absurd c (by rw [hf.eiv (r := 468) (by unfold Mp; omega), hA.1]; omega)⟩
  · intro i hi ih M1 hf
    have hb := bitF_in (c := skS I (pW I s)) i
    refine vn_sinking_4 (by omega) (hf.shp hS) ⟨fun c => absurd c (by rw [hf.eiv (r := 468) (by unfold Mp; omega), hA.1]; omega), fun _ => m_doesSink (by omega) (hf.shp hS) (hA.fr hf (by intro r hr; unfold Mp; omega)) hI (hs.fr hf (by unfold Mp; omega)) hw hi (fun M2 hf2 => ⟨_, rfl, hf2.shp (hf.shp hS), ?_⟩)⟩
    rw [w32s (by omega)]
    have ih := ih M2 (hf.trans hf2)
    simp only [bitF] at ih
    by_cases c : skS I (pW I s) i = true
    · rw [if_pos c] at ih ⊢
      rw [if_neg (by decide), jor_bit (by omega) hb]
      exact ih
    · rw [if_neg c] at ih ⊢
      have h30 : (2 : Nat) ^ i ≤ 2 ^ 8 := Nat.pow_le_pow_right (by decide) (by omega)
      rw [if_pos rfl, jor_0 ⟨hb.1, by omega⟩]
      exact ih
theorem cntF_stop {w : Nat → Int} {a : Nat} : ∀ k, (∀ j, a ≤ j → j < a + k → w j = -1) → cntF w (a + k) = cntF w a
  | 0, _ => rfl
  | k + 1, h => by
    rw [show a + (k + 1) = (a + k) + 1 by omega]
    simp only [cntF]
    rw [if_pos (h (a + k) (by omega) (by omega)), cntF_stop k (fun j h1 h2 => h j h1 (by omega))]
theorem cntF_np (hw : WS n s) (hn : n ≤ 8) : cntF (s 1) 32 = cntF (s 1) (4 * n) := by
  rw [show 32 = 4 * n + (32 - 4 * n) by omega]
  exact cntF_stop _ (fun j h1 h2 => hw.2.1 j (by omega) h1)
theorem m_thoughtMany (hd : 8 ≤ d) (hS : Shp M) (hA : IM M I) (hI : WI I) (hs : MR M I.np s) (hw : WS I.np s) (h : Q (some (vI (cntF (s 1) 32))) M) : Call d mX11_thoughtMany [vR 468] M Q := by
  obtain ⟨e, rfl⟩ := dd (d := d) (by omega)
  have hnp := hI.1
  refine vn_thoughtMany (by omega) hS ?_
  rw [cntF_np hw hnp] at h
  refine up_to (R := fun p => ∀ l3, Run (e + 1) mX11_thoughtMany 4 [some (vR 468), some (vI (cntF (s 1) (4 * p))), some (vI (p : Int)), l3] [] M Q) I.np ?_ ?_ _
  · intro l3
    exact vn_thoughtMany_4 (by omega) hS ⟨fun _ => h, fun c => absurd c (by rw [hA.1]; omega)⟩
  · intro p hp ih l3
    refine vn_thoughtMany_4 (by omega) hS ⟨fun c => absurd c (by rw [hA.1]; omega), fun _ => ?_⟩
    refine up_to (R := fun i => Run (e + 1) mX11_thoughtMany 14 [some (vR 468), some (vI (cntF (s 1) (4 * p + i))), some (vI (p : Int)), some (vI (i : Int))] [] M Q) 4 ?_ ?_
    · refine vn_thoughtMany_14 (by omega) hS ⟨fun _ => ?_, fun c => absurd c (by decide)⟩
      rw [w32s (by omega)]
      exact ih _
    · intro i hi ih2
      have hc := cntF_in (w := s 1) (4 * p + i)
      obtain ⟨r1, r2⟩ := hs.1 (4 * p + i) (by omega)
      refine vn_thoughtMany_14 (by omega) hS ⟨fun c => absurd c (by omega), fun _ => ⟨⟨⟨by omega, by omega⟩, by omega, by omega⟩, ?_⟩⟩
      rw [show (20 * (p : Int) + 5 * (i : Int) + 0).toNat = 5 * (4 * p + i) by omega, w32s (by omega)]
      rw [show 4 * p + (i + 1) = 4 * p + i + 1 by omega] at ih2
      simp only [cntF] at ih2
      by_cases c : s 1 (4 * p + i) = -1
      · rw [if_pos c] at ih2
        rw [r1 c, Int.add_zero, w32_i (by omega) (by omega)]
        exact ih2
      · rw [if_neg c] at ih2
        rw [(r2 c).1, w32_i (by omega) (by omega)]
        exact ih2
end MBase
