/-! held: of the model -/
section HeldM
variable {d : Nat} {M : jM} {Q : Option jV → jM → Prop} {W : kW} {I : jI} {s : jS}
theorem fHas_1 {a q : Nat} (ha : a < 256) (hq : q < 8) : fHas (a : Int) (q : Int) = 0 ↔ ¬ a.testBit q = true := by
  unfold fHas
  rw [← tbI_1 ha hq]
  exact i01
theorem m_isHeldBy {sm p : Nat} (hd : 18 ≤ d) (hM : CM M W) (hok : OKW W) (hp : p < W.I.np) (hsm : sm < 256) (hsub : ∀ q, sm.testBit q = true → q < W.I.np ∧ fE (W.s 1) q ≠ -1) (h : ∀ M', FM M M' → CM M' W → Q (some (vI (if flS (pW W.I (heS W.s sm.testBit p)) p = true then 0 else 1))) M') : Call d mX11_isHeldBy [vR 468, vI (p : Int), vI (sm : Int)] M Q := by
  obtain ⟨e, rfl⟩ := dd (d := d) (by omega)
  have hS := hM.shp
  have hn8 := hok.wi.1
  have gs := hok.gs (by omega)
  refine vn_isHeldBy (by omega) hS (m_aside0 (by omega) hS (fun M0 f0 hput => ⟨rfl, f0.shp hS, ?_⟩))
  have s0 := f0.shp hS
  have fb : Fr Tb M M0 := f0.mono (by intro r hr; unfold Tb; omega)
  have e6 : iv M0 486 = iv M 486 := f0.eiv (by omega)
  have A0 : IM M0 W.I := hM.im.fr f0 (by intro r hr; omega)
  refine up_to (R := fun i => ∀ M1, FL M0 M1 → MR M1 W.I.np (heS W.s (fun x => decide (x < i) && sm.testBit x) p) → Run (e + 1) mX11_isHeldBy 7 [some (vR 468), some (vI (p : Int)), some (vI (sm : Int)), some (vI (i : Int))] [] M1 Q) W.I.np ?_ ?_ M0 FL.refl ?_
  · intro M1 f1 r1
    have s1 := f1.shp s0
    have A1 := f1.im A0
    have eh : heS W.s (fun x => decide (x < W.I.np) && sm.testBit x) p = heS W.s sm.testBit p := heS_cg (fun x => by
      by_cases z : sm.testBit x = true
      · have := (hsub x z).1
        rw [z]
        simp [this]
      · simp [z])
    rw [eh] at r1
    have hg : WS W.I.np (heS W.s sm.testBit p) := gs.1.he ⟨by omega, by omega⟩ (fun q hq => (hsub q hq).1)
    refine vn_isHeldBy_7 (by omega) s1 ⟨fun _ => m_doesFloat (by omega) s1 A1 hok.wi r1 hg hp (fun M2 f2 => ⟨_, rfl, f2.shp s1, ?_⟩), fun c => absurd c (by rw [A1.1]; omega)⟩
    refine m_back0 (by omega) s0 fb hput (fun x _ => by rw [e6]) (f1.trans (FL.mp f2)) (fun M6 f6 k6 => ⟨rfl, f6.shp hS, ?_⟩)
    have := h M6 (hM.tb f6 k6).2 (hM.tb f6 k6).1
    by_cases c : flS (pW W.I (heS W.s sm.testBit p)) p = true
    · rw [if_pos c] at this ⊢; exact this
    · rw [if_neg c] at this ⊢; exact this
  · intro i hi ih M1 f1 r1
    have s1 := f1.shp s0
    have A1 := f1.im A0
    refine vn_isHeldBy_7 (by omega) s1 ⟨fun c => absurd c (by rw [A1.1]; omega), fun _ => ⟨fun c => ?_, fun c => ?_⟩⟩
    · rw [fHas_1 hsm (by omega)] at c
      rw [w32s (i := i) (by omega)]
      have c3' : sm.testBit i = false := by
        cases z : sm.testBit i
        · rfl
        · exact absurd z c
      have eh : heS W.s (fun x => decide (x < i + 1) && sm.testBit x) p = heS W.s (fun x => decide (x < i) && sm.testBit x) p := heS_cg (fun x => by
        by_cases z : x = i
        · rw [z, c3']; simp
        · simp [show x < i + 1 ↔ x < i by omega])
      exact ih M1 f1 (by rw [eh]; exact r1)
    · rw [fHas_1 hsm (by omega), Classical.not_not] at c
      obtain ⟨g1, g2⟩ := hsub i c
      have hf := fE_in (W.s 1) i
      obtain ⟨r, hr⟩ : ∃ r : Nat, fE (W.s 1) i = (r : Int) := ⟨(fE (W.s 1) i).toNat, by omega⟩
      have hE : fE (heS W.s (fun x => decide (x < i) && sm.testBit x) p 1) i = (r : Int) := by rw [heS_fE (by simp), hr]
      have ea : heS W.s (fun x => decide (x < i + 1) && sm.testBit x) p = pLay (heS W.s (fun x => decide (x < i) && sm.testBit x) p) (4 * i + r) p 0 5 := heS_add hr (by omega) (by simp) (fun x => by
        rw [Bool.and_eq_true, Bool.and_eq_true, decide_eq_true_eq, decide_eq_true_eq]
        constructor
        · rintro ⟨z1, z2⟩
          by_cases z : x = i
          · exact Or.inr z
          · exact Or.inl ⟨by omega, z2⟩
        · rintro (z | z)
          · exact ⟨by omega, z.2⟩
          · rw [z]; exact ⟨by omega, c⟩)
      refine m_putThought (by omega) s1 r1 hn8 (by omega) (by rw [hE]; omega) (by omega) (fun M2 f2 r2 => ⟨rfl, f2.shp s1, ?_⟩)
      rw [hE, Int.toNat_natCast, ← ea] at r2
      rw [w32s (i := i) (by omega)]
      exact ih M2 (f1.trans f2.fl) r2
  · rw [MR_f, e6, show heS W.s (fun x => decide (x < 0) && sm.testBit x) p = W.s from (heS_cg (c' := fun _ => false) (fun x => by simp)).trans heS_0]
    exact hM.mr (by omega)
/-- the model's best set ahead of the j-th -/
def vB (W : kW) (p j : Nat) : Int := if j = 0 then -1 else if flS (pW W.I W.s) p = true then heB (heOk W p) (j - 1) else 0
theorem vB_s {W : kW} {p j : Nat} (hn : W.I.np ≤ 8) : vB W p (j + 1) = if heOk W p j = true ∧ (vB W p j = -1 ∨ bcF (j : Int) < bcF (vB W p j)) then (j : Int) else vB W p j := by
  have h0 : heOk W p 0 = true ↔ ¬ flS (pW W.I W.s) p = true := by
    rw [heOk_iff hn (by decide)]
    have e : heS W.s (Nat.testBit 0) p = W.s := (heS_cg (c' := fun _ => false) (fun x => Nat.zero_testBit x)).trans heS_0
    rw [e]
    exact ⟨fun z => z.2, fun z => ⟨fun q hq => by rw [Nat.zero_testBit] at hq; exact absurd hq (by decide), z⟩⟩
  unfold vB
  rw [if_neg (by omega), Nat.add_sub_cancel]
  by_cases hj : j = 0
  · subst hj
    rw [if_pos rfl]
    by_cases c : flS (pW W.I W.s) p = true
    · rw [if_pos c, if_neg (fun z => (h0.mp z.1) c)]; rfl
    · rw [if_neg c, if_pos ⟨h0.mpr c, Or.inl rfl⟩]; rfl
  · rw [if_neg hj]
    by_cases c : flS (pW W.I W.s) p = true
    · rw [if_pos c, if_pos c]
      obtain ⟨k, rfl⟩ : ∃ k, j = k + 1 := ⟨j - 1, by omega⟩
      rw [Nat.add_sub_cancel]
      rfl
    · rw [if_neg c, if_neg c, if_neg (fun z => ?_)]
      rcases z.2 with z2 | z2
      · exact absurd z2 (by decide)
      · rw [bcF_0] at z2
        have := bcF_nn (j : Int)
        omega
theorem vB_in {W : kW} {p j : Nat} : -1 ≤ vB W p j ∧ vB W p j ≤ j := by
  unfold vB
  have := heB_in (ok := heOk W p) (j - 1)
  split
  · omega
  · split <;> omega
theorem vB_end {W : kW} {p : Nat} (hn : W.I.np ≤ 8) : vB W p (2 ^ W.I.np) = if flS (pW W.I W.s) p = true then heB (heOk W p) 255 else 0 := by
  have h2 := Nat.two_pow_pos W.I.np
  have h3 : 2 ^ W.I.np ≤ 2 ^ 8 := Nat.pow_le_pow_right (by decide) hn
  unfold vB
  rw [if_neg (by omega)]
  have e : heB (heOk W p) (2 ^ W.I.np - 1 + (255 - (2 ^ W.I.np - 1))) = heB (heOk W p) (2 ^ W.I.np - 1) := heB_stop _ (fun j h1 h4 => by
    cases hj : heOk W p j
    · rfl
    · have hs := ((heOk_iff hn (by omega)).mp hj).1
      have hl : j < 2 ^ W.I.np := Nat.lt_pow_two_of_testBit j (fun i hi => by
        cases hb : j.testBit i
        · rfl
        · have := (hab_of i (hs i hb)).1
          omega)
      omega)
  rw [show 2 ^ W.I.np - 1 + (255 - (2 ^ W.I.np - 1)) = 255 by omega] at e
  rw [e]
theorem M_held {p : Int} (hd : 20 ≤ d) (hM : CM M W) (hok : OKW W) (h : ∀ M', FM M M' → CM M' W → Q (some (vI (aHeld W p))) M') : Call d mX11_held [vR 468, vI p] M Q := by
  obtain ⟨e, rfl⟩ := dd (d := d) (by omega)
  have hS := hM.shp
  have hn8 := hok.wi.1
  have h0 := h M Fr.refl hM
  obtain ⟨k1, k2, k3⟩ := jshl_1 hok.wi.1
  unfold aHeld at h h0
  refine vn_held (by omega) hS ?_
  rw [hM.np, w32np hn8]
  simp only [fIn_0, fIn_n]
  refine ⟨fun c => ?_, fun c => ?_⟩
  · rw [if_neg (by omega)] at h
    obtain ⟨q, rfl⟩ : ∃ q : Nat, p = (q : Int) := ⟨p.toNat, by omega⟩
    rw [Int.toNat_natCast, ← vB_end hn8] at h
    refine up_to (R := fun i => ∀ M1 l4 l5, FM M M1 → CM M1 W → Run (e + 1) mX11_held 14 [some (vR 468), some (vI (q : Int)), some (vI (bitF (abS W.I W.s q) i)), some (vI (i : Int)), l4, l5] [] M1 Q) W.I.np ?_ ?_ M _ _ Fr.refl hM
    · intro M1 l4 l5 f1 m1
      refine vn_held_14 (by omega) m1.shp ⟨fun _ => ?_, fun c2 => absurd c2 (by rw [m1.np]; omega)⟩
      rw [abN_bit]
      have ha := abN_256 (c := abS W.I W.s q) hn8
      have hab := hab_of (I := W.I) (s := W.s) (p := q)
      have hok3 := fun sm (hs : sm < 256) => heOk_iff (p := q) hn8 hs
      generalize abN (abS W.I W.s (q : Int)) W.I.np = a at *
      refine up_to (R := fun i => ∀ M2 l5, FM M M2 → CM M2 W → Run (e + 1) mX11_held 66 [some (vR 468), some (vI (q : Int)), some (vI (a : Int)), some (vI (vB W q i)), some (vI (i : Int)), l5] [] M2 Q) (2 ^ W.I.np) ?_ ?_ M1 _ f1 m1
      · intro M2 l5 f2 m2
        refine vn_held_66 (by omega) m2.shp ?_
        rw [m2.np, k1]
        exact ⟨fun _ => h M2 f2 m2, fun c2 => absurd (Int.le_refl _) c2⟩
      · intro i hi ih M2 l5 f2 m2
        have k4 := hok3 i (by omega)
        have hv := vB_in (W := W) (p := q) (j := i)
        rw [vB_s hn8] at ih
        have skip : ¬ (heOk W q i = true ∧ (vB W q i = -1 ∨ bcF (i : Int) < bcF (vB W q i))) → ∀ M3 l5, FM M M3 → CM M3 W → Run (e + 1) mX11_held 66 [some (vR 468), some (vI (q : Int)), some (vI (a : Int)), some (vI (vB W q i)), some (vI (w32 ((i : Int) + 1))), l5] [] M3 Q := by
          intro hz M3 l5 f3 m3
          have := ih M3 l5 f3 m3
          rw [if_neg hz] at this
          rw [w32s (i := i) (by omega)]
          exact this
        have held : (∀ x, i.testBit x = true → a.testBit x = true) → (vB W q i = -1 ∨ bcF (i : Int) < bcF (vB W q i)) → Call e mX11_isHeldBy [vR 468, vI (q : Int), vI (i : Int)] M2 (fun r M3 => ∃ z : Int, r = some (vI z) ∧ Shp M3 ∧ ∀ l5, Run (e + 1) mX11_held 66 [some (vR 468), some (vI (q : Int)), some (vI (a : Int)), some (vI (if z = 0 then vB W q i else (i : Int))), some (vI (w32 ((i : Int) + 1))), l5] [] M3 Q) := by
          intro hs hb
          refine m_isHeldBy (by omega) m2 hok (by omega) (by omega) (fun x hx => ⟨(hab x (hs x hx)).1, (hab x (hs x hx)).2.1⟩) (fun M3 f3 m3 => ⟨_, rfl, m3.shp, fun l5 => ?_⟩)
          have := ih M3 l5 (f2.trans f3) m3
          rw [w32s (i := i) (by omega)]
          by_cases c5 : flS (pW W.I (heS W.s i.testBit q)) q = true
          · rw [if_neg (fun z => (k4.mp z.1).2 c5)] at this
            rw [if_pos c5, if_pos rfl]
            exact this
          · rw [if_pos ⟨k4.mpr ⟨hs, c5⟩, hb⟩] at this
            rw [if_neg c5, if_neg (by decide)]
            exact this
        refine vn_held_66 (by omega) m2.shp ?_
        rw [m2.np, k1]
        refine ⟨fun c2 => absurd c2 (by omega), fun _ => ⟨fun c2 => ?_, fun c2 => ⟨fun c3 => ?_, fun c3 => d_bitCount (by omega) ⟨_, rfl, m2.shp, d_bitCount (by omega) ⟨_, rfl, m2.shp, fun c4 => ?_, fun c4 => ?_⟩⟩⟩⟩⟩
        · exact skip (fun z => c2 ((sub_iff (by omega) ha).mpr (k4.mp z.1).1)) M2 _ f2 m2
        · rw [Classical.not_not, sub_iff (by omega) ha] at c2
          exact (held c2 (Or.inl c3)).mono (Nat.le_refl _) (fun r M3 z => by
            obtain ⟨z1, z2, z3, z4⟩ := z
            exact ⟨z1, z2, z3, z4 _⟩)
        · have c5' : bcF (vB W q i) ≤ bcF (i : Int) := by
            by_cases z : bcF (vB W q i) ≤ bcF (i : Int)
            · exact z
            · rw [if_neg z] at c4; exact absurd c4 (by decide)
          refine skip (fun z => ?_) M2 _ f2 m2
          rcases z.2 with z2 | z2
          · exact c3 z2
          · omega
        · rw [Classical.not_not, sub_iff (by omega) ha] at c2
          have c5' : bcF (i : Int) < bcF (vB W q i) := by
            by_cases z : bcF (vB W q i) ≤ bcF (i : Int)
            · rw [if_pos z] at c4; exact absurd rfl c4
            · omega
          exact (held c2 (Or.inr c5')).mono (Nat.le_refl _) (fun r M3 z => by
            obtain ⟨z1, z2, z3, z4⟩ := z
            exact ⟨z1, z2, z3, z4 _⟩)
    · intro i hi ih M1 l4 l5 f1 m1
      have hb := bitF_in (c := abS W.I W.s q) i
      have h30 : (2 : Nat) ^ i ≤ 2 ^ 8 := Nat.pow_le_pow_right (by decide) (by omega)
      have no : ¬ abS W.I W.s q i = true → Run (e + 1) mX11_held 14 [some (vR 468), some (vI (q : Int)), some (vI (jor (bitF (abS W.I W.s q) i) 0)), some (vI (w32 ((i : Int) + 1))), l4, l5] [] M1 Q := by
        intro c2
        have := ih M1 l4 l5 f1 m1
        simp only [bitF] at this
        rw [if_neg c2] at this
        rw [w32s (by omega), jor_0 ⟨hb.1, by omega⟩]
        exact this
      have ex : (3 * (i : Int) + 2).toNat = 3 * i + 2 := by omega
      refine vn_held_14 (by omega) m1.shp ?_
      rw [m1.np, ex, (m1.im.2.1 i hi).2, fG_m (hok.wi.2.2.1 i (by omega)) (by omega)]
      refine ⟨fun c2 => absurd c2 (by omega), fun _ => ⟨fun c2 => no (by unfold abS; simp [c2]), fun c2 => ⟨⟨by omega, by omega⟩, fun c3 => no (by unfold abS; simp [c3]), fun c3 => ?_⟩⟩⟩
      rw [fG_0, Classical.not_not] at c3
      refine m_emptyIn (by omega) m1.shp (m1.mr (by omega)) (by omega) ⟨_, rfl, m1.shp, ?_⟩
      by_cases c4 : fE (W.s 1) i = -1
      · rw [if_pos c4]
        exact no (by unfold abS; simp [c4])
      · rw [if_neg c4]
        have ca : abS W.I W.s q i = true := by unfold abS; simp [c2, c3, c4]
        have := ih M1 l4 l5 f1 m1
        simp only [bitF] at this
        rw [if_pos ca] at this
        rw [w32s (by omega), jor_bit (by omega) hb]
        exact this
  · rw [if_pos (by omega)] at h0; exact h0
end HeldM
