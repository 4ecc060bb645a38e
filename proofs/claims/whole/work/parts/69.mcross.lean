/-! load, together, goings: of the model -/
theorem br_no {W : kW} (hok : OKW W) {i : Nat} (hi : i < W.I.np) (hb : ¬ W.br (2 ^ i) = true) : ∀ s, s < 256 → s.testBit i = true → W.br s = false := by
  intro s hs ht
  have hn8 := hok.wi.1
  have hr : rnd (W.wt i) = W.wt i := wtS_rnd hok.wi (hok.gs (by omega)).1 (by omega)
  have hp : (2 : Nat) ^ i ≤ 2 ^ 8 := Nat.pow_le_pow_right (by decide) (by omega)
  have hp8 : (2 : Nat) ^ 8 = 256 := by decide
  have e1 : loF (tbI ((2 ^ i : Nat) : Int)) W.wt W.I.np = W.wt i := by
    rw [loF_cg (c' := fun j => decide (j = i)) (w' := W.wt) W.I.np (fun j hj => ⟨by rw [tbI_n (by omega) (by omega), Nat.testBit_two_pow]; exact decide_eq_decide.mpr ⟨fun z => z.symm, fun z => z.symm⟩, rfl⟩), loF_one (fun j => rfl) hr, if_pos hi]
  have e2 : W.wt i ≤ loF (tbI (s : Int)) W.wt W.I.np := loF_ge (by rw [tbI_n (by omega) (by omega)]; exact ht) hr W.I.np (fun j hj => (kW.wt17 hok hj).1) hi
  unfold kW.br at hb ⊢
  rw [e1] at hb
  simp only [decide_eq_true_eq] at hb
  rw [decide_eq_false_iff_not]
  omega
section CrossM
variable {d : Nat} {M : jM} {Q : Option jV → jM → Prop} {W : kW}
theorem M_lay (hd : 17 ≤ d) (hM : CM M W) (hok : OKW W) (hn : 0 < W.I.np) (h : ∀ M', CM M' W → FM M M' → (∀ p, p < W.I.np → lg M' 490 p = W.wt p) → Q none M') : Call d mX11_layWeights [vR 468] M Q := by
  refine m_layWeights hd hM.shp hM.im hok.wi (hM.mr hn) (hok.gs hn).1 (fun M' hf hx => h M' ?_ ?_ hx)
  · exact hM.obs (F4.of hf (by omega)) (fun r hr => by unfold Yo; omega) (fun j (z : False) => z.elim)
  · exact hf.mono (fun r hr => by omega)
theorem M_bear {s : Nat} (hd : 9 ≤ d) (hM : CM M W) (hok : OKW W) (hx : ∀ p, p < W.I.np → lg M 490 p = W.wt p) (h : Q (some (vI (if W.br s = true then 1 else 0))) M) : Call d mX11_doesBear [vR 468, vI (s : Int)] M Q := by
  have hbr := hok.wi.2.2.2.2
  have e2 := hM.im.2.2.2.1
  refine m_doesBear hd hM.shp hM.np hok.wi.1 (fun p hp => ⟨hx p hp, kW.wt17 hok hp⟩) (by rw [e2]; exact hbr) ?_
  rw [e2]
  refine (congrArg (fun z => Q (some (vI z)) M) ?_).mp h
  unfold kW.br
  simp only [decide_eq_true_eq]
theorem M_load {sm : Int} (hd : 19 ≤ d) (hM : CM M W) (hok : OKW W) (h : ∀ M', FM M M' → CM M' W → Q (some (vI (aLoad W sm))) M') : Call d mX11_load [vR 468, vI sm] M Q := by
  obtain ⟨e, rfl⟩ := dd (d := d) (by omega)
  have hS := hM.shp
  obtain ⟨k1, k2, k3⟩ := jshl_1 hok.wi.1
  have h0 := h M Fr.refl hM
  unfold aLoad at h h0
  refine vn_load (by omega) hS ?_
  rw [hM.np, k1]
  refine ⟨fun c => ?_, fun c => ⟨fun c2 => ?_, fun c2 => ⟨fun c3 => ?_, fun c3 => ?_⟩⟩⟩
  · rw [if_pos (by omega)] at h0; exact h0
  · rw [if_pos (by omega)] at h0; exact h0
  · rw [if_neg (by omega)] at h
    refine M_lay (by omega) hM hok (by omega) (fun M1 m1 f1 x1 => ⟨rfl, m1.shp, ?_⟩)
    refine m_loadOf (by omega) m1.shp m1.np hok.wi.1 (fun p hp => ⟨x1 p hp, kW.wt17 hok hp⟩) ⟨_, rfl, m1.shp, ?_⟩
    have := loF_in (c := tbI sm) (w := W.wt) W.I.np hok.wi.1 (fun p hp => kW.wt17 hok hp)
    rw [fTm_fT this.1]
    exact h M1 f1 m1
  · rw [if_pos (by omega)] at h0; exact h0
theorem M_together (hd : 19 ≤ d) (hM : CM M W) (hok : OKW W) (h : ∀ M', FM M M' → CM M' W → Q (some (vI (aTog W))) M') : Call d mX11_together [vR 468] M Q := by
  obtain ⟨e, rfl⟩ := dd (d := d) (by omega)
  have hS := hM.shp
  obtain ⟨k1, k2, k3⟩ := jshl_1 hok.wi.1
  have h0 := h M Fr.refl hM
  unfold aTog at h h0
  refine vn_together (by omega) hS ?_
  rw [hM.np]
  refine ⟨fun c => ?_, fun c => ?_⟩
  · rw [if_neg (by omega)] at h
    refine M_lay (by omega) hM hok (by omega) (fun M1 m1 f1 x1 => ⟨rfl, m1.shp, ?_⟩)
    have s1 := m1.shp
    have h := h M1 f1 m1
    refine up_to (R := fun i => Run (e + 1) mX11_together 17 [some (vR 468), some (vI (tgF W.br i : Nat)), some (vI ((i + 1 : Nat) : Int))] [] M1 Q) (2 ^ W.I.np - 1) ?_ ?_
    · refine vn_together_17 (by omega) s1 ?_
      rw [m1.np, k1]
      exact ⟨fun _ => h, fun c => absurd (by omega) c⟩
    · intro i hi ih
      have tl := tgF_le (b := W.br) i
      rw [tgF_s] at ih
      refine vn_together_17 (by omega) s1 ?_
      rw [m1.np, k1]
      refine ⟨fun c => absurd c (by omega), fun _ => d_bitCount (by omega) ⟨_, rfl, s1, d_bitCount (by omega) ⟨_, rfl, s1, fun c => ?_, fun c => M_bear (by omega) m1 hok x1 ⟨_, rfl, s1, ?_⟩⟩⟩⟩
      · rw [if_neg (by omega)] at ih
        rw [w32s (by omega)]
        exact ih
      · rw [w32s (by omega)]
        refine (congrArg (fun z => Run (e + 1) mX11_together 17 [some (vR 468), some (vI z), some (vI ((i + 1 + 1 : Nat) : Int))] [] M1 Q) ?_).mp ih
        by_cases c2 : W.br (i + 1) = true
        · rw [if_pos ⟨by omega, c2⟩, if_pos c2, if_neg (by decide)]
        · rw [if_neg (fun z => c2 z.2), if_neg c2, if_pos rfl]
  · rw [if_pos (by omega)] at h0; exact h0
theorem M_goings (hd : 19 ≤ d) (hM : CM M W) (hok : OKW W) (h : ∀ M', FM M M' → CM M' W → Q (some (vI (aGoings W))) M') : Call d mX11_goings [vR 468] M Q := by
  obtain ⟨e, rfl⟩ := dd (d := d) (by omega)
  have hS := hM.shp
  obtain ⟨k1, k2, k3⟩ := jshl_1 hok.wi.1
  have hn8 := hok.wi.1
  have h0 := h M Fr.refl hM
  unfold aGoings at h h0
  refine vn_goings (by omega) hS ?_
  rw [hM.np]
  refine ⟨fun c => ?_, fun c => ?_⟩
  · rw [if_neg (by omega)] at h
    refine M_lay (by omega) hM hok (by omega) (fun M1 m1 f1 x1 => ⟨rfl, m1.shp, fun N hN sN => ?_⟩)
    have s1 := m1.shp
    have up : ∀ M2, Fr (fun r => r = 491) M1 M2 → CM M2 W ∧ FM M M2 ∧ (∀ p, p < W.I.np → lg M2 490 p = W.wt p) := fun M2 f2 => ⟨m1.obs (F4.of f2 (by omega)) (fun r hr => by unfold Yo; omega) (fun j (z : False) => z.elim), f1.trans (f2.mono (fun r hr => by omega)), fun p hp => by rw [f2.elg (by omega)]; exact x1 p hp⟩
    refine up_to (R := fun i => ∀ M2 l2, Fr (fun r => r = 491) M1 M2 → (∀ x, x < i + 1 → iv M2 491 x = gB W.br 1000000 x) → Run (e + 1) mX11_goings 22 [some (vR 468), some (vI ((i + 1 : Nat) : Int)), l2] [] M2 Q) (2 ^ W.I.np - 1) ?_ ?_ N _ (by rw [hN]; exact fr_si rfl) (fun x hx => by rw [show x = 0 by omega, gV_0, hN, iv_si, if_pos ⟨rfl, rfl⟩])
    · intro M2 l2 f2 hx
      obtain ⟨u1, u2, u3⟩ := up M2 f2
      refine vn_goings_22 (by omega) u1.shp ?_
      rw [u1.np, k1, w32_i (z := ((2 ^ W.I.np : Nat) : Int) - 1) (by omega) (by omega), show (((2 ^ W.I.np : Nat) : Int) - 1).toNat = 2 ^ W.I.np - 1 by omega, hx _ (by omega)]
      refine ⟨fun _ => ⟨by omega, ?_⟩, fun c => absurd (by omega) c⟩
      by_cases hall : allB W = true
      · rw [if_pos hall] at h
        obtain ⟨q1, q2⟩ := gV_eq hn8 (allB_t.mp hall) (2 ^ W.I.np - 1) (by omega)
        have q3 := (okM_e (a := 2 ^ W.I.np - 1) (by omega)).2
        rw [q1] at h
        exact ⟨fun _ => h M2 u2 u1, fun c => absurd (by omega) c⟩
      · rw [if_neg hall] at h
        have : ∃ i, i < W.I.np ∧ ¬ W.br (2 ^ i) = true := by
          rcases Classical.em (∃ i, i < W.I.np ∧ ¬ W.br (2 ^ i) = true) with z | z
          · exact z
          · exact absurd (allB_t.mpr (fun i hi => by
              rcases Classical.em (W.br (2 ^ i) = true) with q | q
              · exact q
              · exact absurd ⟨i, hi, q⟩ z)) hall
        obtain ⟨i, hi, hb⟩ := this
        have := gV_no (b := W.br) (i := i) (by omega) (br_no hok hi hb) (2 ^ W.I.np - 1) (by omega) (by rw [Nat.testBit_two_pow_sub_one]; simpa using hi)
        exact ⟨fun c => absurd c (by omega), fun _ => h M2 u2 u1⟩
    · intro i hi ih M2 l2 f2 hx
      obtain ⟨u1, u2, u3⟩ := up M2 f2
      refine vn_goings_22 (by omega) u1.shp ?_
      rw [u1.np, k1]
      refine ⟨fun c => absurd c (by omega), fun _ => ⟨by omega, fun N2 hN2 sN2 => ?_⟩⟩
      rw [Int.toNat_natCast] at hN2
      have ha : i + 1 < 256 := by omega
      have key : ∀ (k s : Nat) (best : Int) (M3 : jM), s ≤ i + 1 → pendM (i + 1) k s = 0 → (∀ x ∈ pthM (i + 1) k s, x ∈ pthM (i + 1) 256 (i + 1)) → Fr (fun r => r = 491) M1 M3 → (∀ x, x < i + 1 → iv M3 491 x = gB W.br 1000000 x) → iv M3 491 (i + 1) = best → flM W.br (gB W.br 1000000) (i + 1) (pthM (i + 1) k s) best = gB W.br 1000000 (i + 1) → 0 ≤ best → best ≤ 1000000 → Run (e + 1) mX11_goings 43 [some (vR 468), some (vI ((i + 1 : Nat) : Int)), some (vI (s : Int))] [] M3 Q := by
        intro k
        induction k with
        | zero =>
          intro s best M3 hs hp hsub f3 hx3 hb hfl _ _
          have hs0 : s = 0 := hp
          subst hs0
          refine vn_goings_43 (by omega) (f3.shp s1) ⟨fun _ => ?_, fun c => absurd (by omega) c⟩
          rw [w32s (by omega)]
          refine ih M3 _ f3 (fun x hx2 => ?_)
          by_cases z : x = i + 1
          · rw [z, hb, ← hfl]; rfl
          · exact hx3 x (by omega)
        | succ k ihk =>
          intro s best M3 hs hp hsub f3 hx3 hb hfl hb0 hb1
          by_cases hs0 : s = 0
          · subst hs0
            refine vn_goings_43 (by omega) (f3.shp s1) ⟨fun _ => ?_, fun c => absurd (by omega) c⟩
            rw [w32s (by omega)]
            refine ih M3 _ f3 (fun x hx2 => ?_)
            by_cases z : x = i + 1
            · rw [z, hb, ← hfl]; rfl
            · exact hx3 x (by omega)
          · have e1 : pthM (i + 1) (k + 1) s = s :: pthM (i + 1) k (nxM (i + 1) s) := if_neg hs0
            have e2 : pendM (i + 1) (k + 1) s = pendM (i + 1) k (nxM (i + 1) s) := if_neg hs0
            rw [e1] at hsub hfl
            rw [e2] at hp
            obtain ⟨p1, p2, p3, p4⟩ := okM_s ha (hsub s List.mem_cons_self)
            have hst : flM W.br (gB W.br 1000000) (i + 1) (s :: pthM (i + 1) k (nxM (i + 1) s)) best = flM W.br (gB W.br 1000000) (i + 1) (pthM (i + 1) k (nxM (i + 1) s)) (stM W.br (gB W.br 1000000) (i + 1) best s) := rfl
            rw [hst] at hfl
            obtain ⟨w1, w2, w3⟩ := up M3 f3
            have g := gB_in (b := W.br) (i := 1000000) (by omega) ((i + 1) ^^^ s) (by omega)
            have hj : jand ((i + 1 : Nat) : Int) (jxor (s : Int) (-1)) = (((i + 1) ^^^ s : Nat) : Int) := by rw [jandn (by omega) (by omega), p4]
            have hsub2 : ∀ x ∈ pthM (i + 1) k (nxM (i + 1) s), x ∈ pthM (i + 1) 256 (i + 1) := fun x hx => hsub x (List.mem_cons_of_mem _ hx)
            have go : ∀ (N3 : jM) (v : Int), N3 = si M3 491 (i + 1) v → 0 ≤ v → v ≤ 1000000 → stM W.br (gB W.br 1000000) (i + 1) best s = v → Run (e + 1) mX11_goings 43 [some (vR 468), some (vI ((i + 1 : Nat) : Int)), some (vI (nxM (i + 1) s : Nat))] [] N3 Q := by
              intro N3 v hN3 v0 v1 hv
              rw [hv] at hfl
              refine ihk _ v N3 nxM_le hp hsub2 (by rw [hN3]; exact f3.ps rfl) (fun x hx2 => by rw [hN3, iv_si, if_neg (by omega)]; exact hx3 x hx2) (by rw [hN3, iv_si, if_pos ⟨rfl, rfl⟩]) hfl v0 v1
            refine vn_goings_43 (by omega) w1.shp ?_
            rw [hj, nxM_j ha ⟨by omega, by omega⟩, Int.toNat_natCast, Int.toNat_natCast, hb, hx3 _ p3, w32_i (z := gB W.br 1000000 ((i + 1) ^^^ s) + 1) (by omega) (by omega)]
            refine ⟨fun c => absurd c (by omega), fun _ => ⟨by omega, by omega, fun c2 N3 hN3 sN3 => ?_, fun c2 => M_bear (by omega) w1 hok w3 ⟨_, rfl, w1.shp, fun c3 N3 hN3 sN3 => ?_, fun c3 N3 hN3 sN3 => ?_⟩⟩⟩
            · exact go N3 best hN3 hb0 hb1 (if_neg (fun z => by have := z.2; omega))
            · rw [i01] at c3
              rw [hb] at hN3
              exact go N3 best hN3 hb0 hb1 (if_neg (fun z => c3 z.1))
            · rw [i01, Classical.not_not] at c3
              rw [hx3 _ p3, w32_i (z := gB W.br 1000000 ((i + 1) ^^^ s) + 1) (by omega) (by omega)] at hN3
              exact go N3 _ hN3 (by omega) (by omega) (if_pos ⟨c3, by omega⟩)
      have ge := gV_s (b := W.br) (i := 1000000) (x := i + 1) (by omega) ha
      exact key 256 (i + 1) 1000000 N2 (Nat.le_refl _) (okM_e ha).1 (fun x hx => hx) (by rw [hN2]; exact f2.ps rfl) (fun x hx2 => by rw [hN2, iv_si, if_neg (by omega)]; exact hx x hx2) (by rw [hN2, iv_si, if_pos ⟨rfl, rfl⟩]) ge.symm (by omega) (Int.le_refl _)
  · rw [if_pos (by omega)] at h0; exact h0
end CrossM
