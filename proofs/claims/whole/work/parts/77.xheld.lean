/-! held: of the class -/
section HeldX
variable {d : Nat} {M : jM} {Q : Option jV → jM → Prop} {W : kW} {I : jI} {s : jS}
theorem tbI_1 {a q : Nat} (ha : a < 256) (hq : q < 8) : jand (jshr (a : Int) (q : Int)) 1 = 1 ↔ a.testBit q = true := by
  rw [← tbI_n (by omega) (by omega)]
  unfold tbI
  simp
theorem x_isHeldBy {sm a p : Nat} {b : Nat → Bool} (hd : 6 ≤ d) (hS : Shp M) (hI : WI I) (hw : WS I.np s) (hp : p < I.np) (hsm : sm < 256) (ha : a < 256) (hab : ∀ q, a.testBit q = true → q < I.np ∧ fE (s 1) q ≠ -1) (hsub : ∀ q, sm.testBit q = true → a.testBit q = true) (h33 : SB M 33 s) (h49 : SA M 49 (heT I s a.testBit b p)) (h : ∀ M' b', Fr (fun r => r = 50) M M' → SA M' 49 (heT I s a.testBit b' p) → Q (some (vI (if flS (pW I (heS s sm.testBit p)) p = true then 0 else 1))) M') : Call d mX10_isHeldBy [vR 6, vI (sm : Int), vI (a : Int), vI (p : Int)] M Q := by
  obtain ⟨e, rfl⟩ := dd (d := d) (by omega)
  have hn8 := hI.1
  refine vx_isHeldBy (by omega) hS ?_
  refine up_to (R := fun i => ∀ M1 b1 l5, Fr (fun r => r = 50) M M1 → SA M1 49 (heT I s a.testBit b1 p) → (∀ q, q < i → a.testBit q = true → b1 q = sm.testBit q) → Run (e + 1) mX10_isHeldBy 3 [some (vR 6), some (vI (sm : Int)), some (vI (a : Int)), some (vI (p : Int)), some (vI (i : Int)), l5] [] M1 Q) 8 ?_ ?_ M b _ Fr.refl h49 (fun q hq => absurd hq (by omega))
  · intro M1 b1 l5 f1 a1 hb
    have s1 := f1.shp hS
    refine vx_isHeldBy_3 (by omega) s1 ⟨fun _ => t_floats (by omega) s1 (by decide) a1 (heT_WS hw ⟨by omega, by omega⟩ (fun q hq => (hab q hq).1)) (heT_WM hI) (by omega) ⟨_, rfl, s1, ?_⟩, fun c => absurd (by decide) c⟩
    rw [heT_fl (fun q hq => (hab q hq).2) (fun q _ hq => hsub q hq) hb]
    have := h M1 b1 f1 a1
    by_cases c : flS (pW I (heS s sm.testBit p)) p = true
    · rw [if_pos c] at this ⊢; exact this
    · rw [if_neg c] at this ⊢; exact this
  · intro i hi ih M1 b1 l5 f1 a1 hb
    have s1 := f1.shp hS
    refine vx_isHeldBy_3 (by omega) s1 ⟨fun c => absurd c (by omega), fun _ => ⟨fun c => ?_, fun c => ?_⟩⟩
    · rw [w32s (i := i) (by omega)]
      refine ih M1 b1 _ f1 a1 (fun q hq hq2 => ?_)
      by_cases z : q = i
      · rw [z] at hq2; exact absurd ((tbI_1 ha hi).mpr hq2) c
      · exact hb q (by omega) hq2
    · rw [Classical.not_not, tbI_1 ha hi] at c
      obtain ⟨g1, g2⟩ := hab i c
      have b33 : SB M1 33 s := h33.fr f1 (by intro k hk h5; omega)
      have e1 : smS M1 33 s 1 = s 1 := funext (fun _ => smS_n (by decide))
      have hf := fE_in (s 1) i
      obtain ⟨r, hr⟩ : ∃ r : Nat, fE (s 1) i = (r : Int) := ⟨(fE (s 1) i).toNat, by omega⟩
      refine t_emptyPlace (by omega) s1 (by decide) b33.sa hi ⟨_, rfl, s1, fun N hN sN => ?_⟩
      rw [e1, hr, four (by omega) (by omega)] at hN
      rw [w32s (i := i) (by omega)]
      refine ih N (fun q => if q = i then sm.testBit i else b1 q) _ (by rw [hN]; exact f1.pv rfl) (fun f j hj => ?_) (fun q hq hq2 => ?_)
      · have hj2 := a1 f j hj
        rw [hN, iv_ptv]
        by_cases cj : f = 1 ∧ j = 4 * i + r
        · obtain ⟨c1, c2⟩ := cj
          subst c1 c2
          have q4 : (4 * i + r) / 4 = i := by omega
          have jj : heJ s a.testBit (4 * i + r) = true := heJ_iff.mpr (by rw [q4]; exact ⟨c, by rw [hr]; omega⟩)
          rw [if_pos ⟨rfl, rfl, by omega⟩]
          have ev : heT I s a.testBit (fun q => if q = i then sm.testBit i else b1 q) p 1 (4 * i + r) = if sm.testBit i = true then (p : Int) else -1 := by
            unfold heT
            rw [if_pos ⟨rfl, jj⟩]
            simp [q4]
          rw [ev]
          by_cases cs : sm.testBit i = true
          · rw [if_neg (fun z => z ((tbI_1 hsm hi).mpr cs)), if_pos cs]
          · rw [if_pos (fun z => cs ((tbI_1 hsm hi).mp z)), if_neg cs]
        · rw [if_neg (fun z => cj ⟨by omega, by omega⟩), hj2]
          unfold heT
          by_cases c5 : f = 1 ∧ heJ s a.testBit j = true
          · rw [if_pos c5, if_pos c5]
            have hne : j / 4 ≠ i := by
              intro z
              have := (heJ_iff.mp c5.2).2
              rw [z, hr] at this
              exact cj ⟨c5.1, by omega⟩
            show _ = if (if j / 4 = i then sm.testBit i else b1 (j / 4)) = true then (p : Int) else -1
            rw [if_neg hne]
          · rw [if_neg c5, if_neg c5]
      · by_cases z : q = i
        · rw [z]; exact if_pos rfl
        · exact (if_neg z).trans (hb q (by omega) hq2)
theorem abN_256 {c : Nat → Bool} {n : Nat} (h : n ≤ 8) : abN c n < 256 := Nat.lt_of_lt_of_le (abN_lt n) (Nat.pow_le_pow_right (by decide) h)
theorem hab_of {I : jI} {s : jS} {p : Nat} : ∀ q, (abN (abS I s p) I.np).testBit q = true → q < I.np ∧ fE (s 1) q ≠ -1 ∧ q ≠ p ∧ fG (I.mi q) 0 = 1 := by
  intro q hq
  rw [abN_t, Bool.and_eq_true, decide_eq_true_eq] at hq
  obtain ⟨h1, h2⟩ := hq
  unfold abS at h2
  rw [decide_eq_true_eq] at h2
  exact ⟨h1, h2.2.2, fun z => h2.1 (by rw [z]), h2.2.1⟩
theorem heOk_iff {W : kW} {p sm : Nat} (hn : W.I.np ≤ 8) (hs : sm < 256) : heOk W p sm = true ↔ (∀ q, sm.testBit q = true → (abN (abS W.I W.s p) W.I.np).testBit q = true) ∧ ¬ flS (pW W.I (heS W.s sm.testBit p)) p = true := by
  unfold heOk
  rw [Bool.and_eq_true, decide_eq_true_eq, abN_bit, sub_iff hs (abN_256 hn)]
  simp
theorem As_a {r : Nat} (h : As M r) : Xa M r := by have := As_o h; unfold Xo Wp at this; unfold Xa Wp; omega
theorem X_held {p : Int} (hd : 10 ≤ d) (hX : CX M W) (hok : OKW W) (h : ∀ M', FX M M' → CX M' W → Q (some (vI (aHeld W p))) M') : Call d mX10_held [vR 6, vI p] M Q := by
  obtain ⟨e, rfl⟩ := dd (d := d) (by omega)
  have hS := hX.shp
  have hn8 := hok.wi.1
  have h0 := h M (FX.refl hS) hX
  unfold aHeld at h h0
  refine vx_held (by omega) hS ⟨fun c => ?_, fun c => ?_⟩
  · rw [i01n, hX.np] at c
    rw [if_neg (by omega)] at h
    obtain ⟨q, rfl⟩ : ∃ q : Nat, p = (q : Int) := ⟨p.toNat, by omega⟩
    rw [Int.toNat_natCast] at h
    have gs := hok.gs (by omega)
    refine X_weighed (by omega) hX hok (by omega) (fun M3 x3 f3 a3 => ⟨rfl, x3.shp, ?_⟩)
    have s3 := x3.shp
    refine t_floats (by omega) s3 (by decide) a3 (WS_pW gs.1) (WM_pW hok.wi) (by omega) ⟨_, rfl, s3, fun c2 => ?_, fun c2 => ?_⟩
    · have cf : flS (pW W.I W.s) q = true := by
        by_cases z : flS (pW W.I W.s) q = true
        · exact z
        · rw [if_neg z] at c2; exact absurd rfl c2
      rw [if_pos cf] at h
      refine t_able (by omega) s3 (by decide) x3.ia hok.wi a3 ⟨_, rfl, s3, ?_⟩
      rw [show abS W.I (pW W.I W.s) (q : Int) = abS W.I W.s (q : Int) from rfl, abN_bit]
      have ha := abN_256 (c := abS W.I W.s q) hn8
      have hab := hab_of (I := W.I) (s := W.s) (p := q)
      have hok3 := fun sm (hs : sm < 256) => heOk_iff (p := q) hn8 hs
      generalize abN (abS W.I W.s (q : Int)) W.I.np = a at *
      refine X_aside (by omega) x3 hok (by omega) (fun M4 f4 b4 => ⟨rfl, f4.shp s3, ?_⟩)
      have fin : ∀ M', Fr (As M3) M3 M' → Q (some (vI (heB (heOk W q) 255))) M' := fun M' f => h M' (f3.fr f (fun r hr => by have := As_a hr; unfold Xa Wp at this; omega)) (x3.as hok f).1
      refine up_to (R := fun i => ∀ M1 l4 l5, Fr (As M3) M3 M1 → SB M1 49 (heS W.s (fun x => decide (x < i) && a.testBit x) q) → Run (e + 1) mX10_held 63 [some (vR 6), some (vI (q : Int)), some (vI (a : Int)), some (vI (i : Int)), l4, l5] [] M1 Q) 8 ?_ ?_ M4 _ _ (f4.mono (fun r => As_sp)) (b4.cg (fun f i _ => by rw [heS_no (by unfold heJ; simp)]))
      · intro M1 l4 l5 f1 b1
        have s1 := f1.shp s3
        have eh : heS W.s (fun x => decide (x < 8) && a.testBit x) q = heS W.s a.testBit q := heS_cg (fun x => by
          by_cases z : a.testBit x = true
          · have := (hab x z).1
            rw [z]
            simp [show x < 8 by omega]
          · simp [z])
        rw [eh] at b1
        refine vx_held_63 (by omega) s1 ⟨fun _ => x_weigh (by omega) s1 (x3.ia.xc f1 (fun r => As_x)) hok.wi (by decide) b1 (gs.1.he ⟨by omega, by omega⟩ (fun x hx => (hab x hx).1)) (fun M5 f5 a5 => ⟨rfl, f5.shp s1, ?_⟩), fun c3 => absurd (by decide) c3⟩
        have g5 := As_w f1 f5 rfl
        rw [← heT_ab] at a5
        refine up_to (R := fun i => ∀ M6 b6 l5, Fr (As M3) M3 M6 → SA M6 49 (heT W.I W.s a.testBit b6 q) → Run (e + 1) mX10_held 119 [some (vR 6), some (vI (q : Int)), some (vI (a : Int)), some (vI (heB (heOk W q) i)), some (vI ((i + 1 : Nat) : Int)), l5] [] M6 Q) 255 ?_ ?_ M5 _ _ g5 a5
        · intro M6 b6 l5 f6 a6
          exact vx_held_119 (by omega) (f6.shp s3) ⟨fun _ => fin M6 f6, fun c3 => absurd (by decide) c3⟩
        · intro i hi ih M6 b6 l5 f6 a6
          have s6 := f6.shp s3
          have x6 := (x3.as hok f6).1
          have k3 := hok3 (i + 1) (by omega)
          have hbi := heB_in (ok := heOk W q) i
          simp only [heB] at ih
          have skip : ¬ (heOk W q (i + 1) = true ∧ (heB (heOk W q) i = -1 ∨ bcF ((i + 1 : Nat) : Int) < bcF (heB (heOk W q) i))) → ∀ M7 b7 l5, Fr (As M3) M3 M7 → SA M7 49 (heT W.I W.s a.testBit b7 q) → Run (e + 1) mX10_held 119 [some (vR 6), some (vI (q : Int)), some (vI (a : Int)), some (vI (heB (heOk W q) i)), some (vI (w32 (((i + 1 : Nat) : Int) + 1))), l5] [] M7 Q := by
            intro hz M7 b7 l5 f7 a7
            have := ih M7 b7 l5 f7 a7
            rw [if_neg hz] at this
            rw [w32s (i := i + 1) (by omega)]
            exact this
          have take : (heOk W q (i + 1) = true ∧ (heB (heOk W q) i = -1 ∨ bcF ((i + 1 : Nat) : Int) < bcF (heB (heOk W q) i))) → ∀ M7 b7 l5, Fr (As M3) M3 M7 → SA M7 49 (heT W.I W.s a.testBit b7 q) → Run (e + 1) mX10_held 119 [some (vR 6), some (vI (q : Int)), some (vI (a : Int)), some (vI ((i + 1 : Nat) : Int)), some (vI (w32 (((i + 1 : Nat) : Int) + 1))), l5] [] M7 Q := by
            intro hz M7 b7 l5 f7 a7
            have := ih M7 b7 l5 f7 a7
            rw [if_pos hz] at this
            rw [w32s (i := i + 1) (by omega)]
            exact this
          have n33 : SB M6 33 W.s := (x6.now.1 (by omega)).1
          have held : (∀ x, (i + 1).testBit x = true → a.testBit x = true) → ∀ Q', (∀ M' b', Fr (As M3) M3 M' → SA M' 49 (heT W.I W.s a.testBit b' q) → Q' (some (vI (if flS (pW W.I (heS W.s (i + 1).testBit q)) q = true then 0 else 1))) M') → Call e mX10_isHeldBy [vR 6, vI ((i + 1 : Nat) : Int), vI (a : Int), vI (q : Int)] M6 Q' := fun hs Q' h' => x_isHeldBy (by omega) s6 hok.wi gs.1 (by omega) (by omega) ha (fun x hx => ⟨(hab x hx).1, (hab x hx).2.1⟩) hs n33 a6 (fun M' b' f' a' => h' M' b' (f6.trans (f'.mono (fun r hr => by unfold As; omega))) a')
          refine vx_held_119 (by omega) s6 ⟨fun c3 => absurd c3 (by omega), fun _ => ⟨fun c3 => ⟨fun c4 => ?_, fun c4 => ?_⟩, fun c3 => d_bitCount (by omega) ⟨_, rfl, s6, d_bitCount (by omega) ⟨_, rfl, s6, fun c4 => ?_, fun c4 => ⟨fun c5 => ?_, fun c5 => ?_⟩⟩⟩⟩⟩
          · exact skip (fun z => c4 ((sub_iff (by omega) ha).mpr (k3.mp z.1).1)) M6 b6 _ f6 a6
          · rw [Classical.not_not, sub_iff (by omega) ha] at c4
            refine held c4 _ (fun M7 b7 f7 a7 => ⟨_, rfl, f7.shp s3, fun c5 => ?_, fun c5 => ?_⟩)
            · refine skip (fun z => (k3.mp z.1).2 ?_) M7 b7 _ f7 a7
              by_cases z2 : flS (pW W.I (heS W.s (i + 1).testBit q)) q = true
              · exact z2
              · rw [if_neg z2] at c5; exact absurd c5 (by decide)
            · refine take ⟨k3.mpr ⟨c4, fun z2 => ?_⟩, Or.inl c3⟩ M7 b7 _ f7 a7
              rw [if_pos z2] at c5
              exact c5 rfl
          · exact skip (fun z => c4 ((sub_iff (by omega) ha).mpr (k3.mp z.1).1)) M6 b6 _ f6 a6
          · have c5' : bcF (heB (heOk W q) i) ≤ bcF ((i + 1 : Nat) : Int) := by
              by_cases z : bcF (heB (heOk W q) i) ≤ bcF ((i + 1 : Nat) : Int)
              · exact z
              · rw [if_neg z] at c5; exact absurd c5 (by decide)
            refine skip (fun z => ?_) M6 b6 _ f6 a6
            rcases z.2 with z2 | z2
            · exact c3 z2
            · omega
          · rw [Classical.not_not, sub_iff (by omega) ha] at c4
            have c5' : bcF ((i + 1 : Nat) : Int) < bcF (heB (heOk W q) i) := by
              by_cases z : bcF (heB (heOk W q) i) ≤ bcF ((i + 1 : Nat) : Int)
              · rw [if_pos z] at c5; exact absurd rfl c5
              · omega
            refine held c4 _ (fun M7 b7 f7 a7 => ⟨_, rfl, f7.shp s3, fun c6 => ?_, fun c6 => ?_⟩)
            · refine skip (fun z => (k3.mp z.1).2 ?_) M7 b7 _ f7 a7
              by_cases z2 : flS (pW W.I (heS W.s (i + 1).testBit q)) q = true
              · exact z2
              · rw [if_neg z2] at c6; exact absurd c6 (by decide)
            · refine take ⟨k3.mpr ⟨c4, fun z2 => ?_⟩, Or.inr c5'⟩ M7 b7 _ f7 a7
              rw [if_pos z2] at c6
              exact c6 rfl
      · intro i hi ih M1 l4 l5 f1 b1
        have s1 := f1.shp s3
        have x1 := (x3.as hok f1).1
        refine vx_held_63 (by omega) s1 ⟨fun c3 => absurd c3 (by omega), fun _ => ⟨fun c3 => ?_, fun c3 => ?_⟩⟩
        · rw [w32s (i := i) (by omega)]
          have c3' : a.testBit i = false := by
            cases z : a.testBit i
            · rfl
            · exact absurd ((tbI_1 ha hi).mpr z) c3
          have eh : heS W.s (fun x => decide (x < i + 1) && a.testBit x) q = heS W.s (fun x => decide (x < i) && a.testBit x) q := heS_cg (fun x => by
            by_cases z : x = i
            · rw [z, c3']; simp
            · simp [show x < i + 1 ↔ x < i by omega])
          exact ih M1 _ _ f1 (by rw [eh]; exact b1)
        · rw [Classical.not_not, tbI_1 ha hi] at c3
          obtain ⟨g1, g2, g3, g4⟩ := hab i c3
          have b33 : SB M1 33 W.s := (x1.now.1 (by omega)).1
          have e1 : smS M1 33 W.s 1 = W.s 1 := funext (fun _ => smS_n (by decide))
          have hf := fE_in (W.s 1) i
          obtain ⟨r, hr⟩ : ∃ r : Nat, fE (W.s 1) i = (r : Int) := ⟨(fE (W.s 1) i).toNat, by omega⟩
          refine t_emptyPlace (by omega) s1 (by decide) b33.sa hi ⟨_, rfl, s1, ?_⟩
          rw [e1, hr, w32s (i := i) (by omega)]
          have ea : heS W.s (fun x => decide (x < i + 1) && a.testBit x) q = pLay (heS W.s (fun x => decide (x < i) && a.testBit x) q) (4 * i + r) q 0 5 := heS_add hr (by omega) (by simp) (fun x => by
            rw [Bool.and_eq_true, Bool.and_eq_true, decide_eq_true_eq, decide_eq_true_eq]
            constructor
            · rintro ⟨z1, z2⟩
              by_cases z : x = i
              · exact Or.inr z
              · exact Or.inl ⟨by omega, z2⟩
            · rintro (z | z)
              · exact ⟨by omega, z.2⟩
              · rw [z]; exact ⟨by omega, c3⟩)
          refine t_layIn (by omega) s1 (by decide) b1.sa hi (by omega) (fun M5 f5 a5 => ⟨rfl, f5.shp s1, ih M5 _ _ (f1.trans (f5.mono (fun r => As_sp))) ?_⟩)
          rw [ea]
          refine a5.sb (fun g j hg => ?_)
          unfold pLay
          rw [smS_n hg]
    · have cf : ¬ flS (pW W.I W.s) q = true := fun z => by rw [if_pos z] at c2; exact c2 (by decide)
      rw [if_neg cf] at h
      exact h M3 f3 x3
  · rw [i01n, hX.np] at c; rw [if_pos (by omega)] at h0; exact h0
end HeldX
