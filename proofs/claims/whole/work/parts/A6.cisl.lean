/-! THE CLASS reads an island -/
def KI (M M' : jM) : Prop := Fr (fun r => r = 7 ∨ (9 ≤ r ∧ r ≤ 18)) M M' ∧ ∀ i, i ≠ 2 → i ≠ 3 → iv M' 7 i = iv M 7 i
def IB (M : jM) (Y : jY) : Prop := iv M 9 2 = (if Y.rt = true then 1 else 0) ∧ iv M 9 3 = (Y.np : Int) ∧ iv M 9 7 = (Y.nt : Int) ∧ (∀ i, i < 4 → iv M 11 i = Y.rl i) ∧ (∀ p, p < Y.np → iv M 12 p = Y.pr p 0 ∧ iv M 13 p = Y.pr p 1 ∧ iv M 14 p = Y.pr p 2) ∧ ∀ k, k < Y.nt → iv M 15 k = Y.th k 0 ∧ iv M 16 k = Y.th k 1 ∧ iv M 17 k = Y.th k 2 ∧ iv M 18 k = Y.th k 3
def CI (M0 M : jM) (a : Nat) (Y : jY) : Prop := KI M0 M ∧ iv M 7 2 = (a : Int) ∧ iv M 7 3 = -1 ∧ IB M Y ∧ RdrX M
def CIB (M0 M : jM) (w : Nat) : Prop := KI M0 M ∧ iv M 7 3 = (w : Int) ∧ RdrX M
section CIsl
variable {d : Nat} {M0 M M1 N : jM} {Q : Option jV → jM → Prop} {T : jT} {a w st : Nat} {Y : jY} {it : Nat → Int}
theorem KI.refl : KI M M := ⟨Fr.refl, fun _ _ _ => rfl⟩
theorem KI.trans (h : KI M M1) (k : KI M1 N) : KI M N := ⟨h.1.trans k.1, fun i hi hj => (k.2 i hi hj).trans (h.2 i hi hj)⟩
theorem K3.ki (h : K3 M M1) : KI M M1 := ⟨h.1.mono (by intro r hr; omega), h.2⟩
theorem KI.of {P : Nat → Prop} (h : Fr P M M1) (hp : ∀ r, P r → 9 ≤ r ∧ r ≤ 18) : KI M M1 := ⟨h.mono (fun r hr => Or.inr (hp r hr)), fun i _ _ => by rw [h.eiv (fun z => by have := hp _ z; omega)]⟩
theorem KI.kt (h : KI M M1) (hT : KT M T) : KT M1 T := ⟨by rw [h.2 1 (by decide) (by decide)]; exact hT.1, hT.2.1, fun i hi => by rw [h.1.eiv (by omega)]; exact hT.2.2 i hi⟩
theorem KI.stat (h : KI M M1) (hT : ST M) : ST M1 := by
  intro i hi
  rw [h.1.eiv (by omega), h.1.eiv (by omega), h.1.eiv (by omega), h.1.eiv (by omega)]
  exact hT i hi
theorem RdrX.cg (h : RdrX M) (h2 : iv N 12 = iv M 12) (h3 : iv N 13 = iv M 13) (h4 : iv N 14 = iv M 14) : RdrX N := by
  unfold RdrX
  rw [h2, h3, h4]
  exact h
theorem ix4 {i j : Nat} (hi : i < 1000) (hj : j < 1000) : w32 (w32 ((i : Int) * 4) + (j : Int)) = ((4 * i + j : Nat) : Int) := by
  rw [w32_i (z := (i : Int) * 4) (by omega) (by omega), w32_i (by omega) (by omega)]
  omega
theorem c_lay (hd : 6 ≤ d) (hS : Shp M) (hT : ST M) (hst : st < 3) (h : ∀ M', Fr (fun r => r = 10) M M' → (∀ i, i < 4 → iv M' 10 i = utY (4 * st + i)) → Q none M') : Call d mX2_layOutUntold [vR 9, vI (st : Int)] M Q := by
  obtain ⟨e, rfl⟩ := dd (d := d) (by omega)
  refine vj_lay (by omega) hS ?_
  refine up_to (R := fun i => ∀ M1, Fr (fun r => r = 10) M M1 → (∀ j, j < i → iv M1 10 j = utY (4 * st + j)) → Run (e + 1) mX2_layOutUntold 2 [some (vR 9), some (vI (st : Int)), some (vI (i : Int))] [] M1 Q) 4 ?_ ?_ M Fr.refl (fun j hj => absurd hj (Nat.not_lt_zero _))
  · intro M1 f1 k1
    exact vj_lay_2 (by omega) (f1.shp hS) ⟨fun _ => h M1 f1 k1, fun z => absurd (by decide) z⟩
  · intro i hi ih M1 f1 k1
    refine vj_lay_2 (by omega) (f1.shp hS) ⟨fun z => absurd z (by omega), fun _ N hN sN => ?_⟩
    rw [ix4 (by omega) (by omega), atv_n (by omega : 4 * st + i < 12), f1.eiv (by decide), (hT (4 * st + i) (by omega)).2.2.2] at hN
    rw [w32s (by omega)]
    refine ih N (by rw [hN]; exact f1.pv rfl) (fun j hj => ?_)
    rw [hN, iv_ptv]
    by_cases z : j = i
    · rw [z, if_pos ⟨rfl, rfl, by omega⟩]
    · rw [if_neg (by omega)]; exact k1 j (by omega)
theorem c_itemOf {c : Int} (hd : 6 ≤ d) (hS : Shp M) (hT : ST M) (hst : st < 3) (h : Q (some (vI (imF st c))) M) : Call d mX2_itemOf [vR 9, vI (st : Int), vI c] M Q := by
  obtain ⟨e, rfl⟩ := dd (d := d) (by omega)
  have e1 : ∀ i : Nat, i < 4 → atv M 12 1 (w32 (w32 ((st : Int) * 4) + (i : Int))) = leY (4 * st + i) := fun i hi => by
    rw [ix4 (by omega) (by omega), atv_n (by omega : 4 * st + i < 12), (hT (4 * st + i) (by omega)).1]
  have st_ : ∀ (i : Nat), i < 4 → (leY (4 * st + i) ≠ c → Run (e + 1) mX2_itemOf 2 [some (vR 9), some (vI (st : Int)), some (vI c), some (vI ((i + 1 : Nat) : Int))] [] M Q) → (leY (4 * st + i) = c → Q (some (vI (i : Int))) M) → Run (e + 1) mX2_itemOf 2 [some (vR 9), some (vI (st : Int)), some (vI c), some (vI (i : Int))] [] M Q := by
    intro i hi h1 h2
    refine vj_itemOf_2 (by omega) hS ⟨fun z => absurd z (by omega), fun _ => ?_⟩
    rw [e1 i hi, w32s (by omega)]
    exact ⟨h1, fun z => h2 (Classical.not_not.mp z)⟩
  unfold imF at h
  refine vj_itemOf (by omega) hS ?_
  refine st_ 0 (by decide) (fun c0 => st_ 1 (by decide) (fun c1 => st_ 2 (by decide) (fun c2 => st_ 3 (by decide) (fun c3 => ?_) (fun c3 => ?_)) (fun c2 => ?_)) (fun c1 => ?_)) (fun c0 => ?_)
  · rw [if_neg c0, if_neg c1, if_neg c2, if_neg c3] at h
    exact vj_itemOf_2 (by omega) hS ⟨fun _ => h, fun z => absurd (by decide) z⟩
  · rw [if_neg c0, if_neg c1, if_neg c2, if_pos c3] at h; exact h
  · rw [if_neg c0, if_neg c1, if_pos c2] at h; exact h
  · rw [if_neg c0, if_pos c1] at h; exact h
  · rw [if_pos c0] at h; exact h
def KJ (M M' : jM) : Prop := Fr (fun r => r = 7 ∨ r = 10) M M' ∧ ∀ i, i ≠ 2 → i ≠ 3 → iv M' 7 i = iv M 7 i
theorem KJ.ki (h : KJ M M1) : KI M M1 := ⟨h.1.mono (by intro r hr; omega), h.2⟩
theorem KJ.trans (h : KJ M M1) (k : KJ M1 N) : KJ M N := ⟨h.1.trans k.1, fun i hi hj => (k.2 i hi hj).trans (h.2 i hi hj)⟩
theorem K3.kj (h : K3 M M1) : KJ M M1 := ⟨h.1.mono (by intro r hr; omega), h.2⟩
theorem c_items (hd : 9 ≤ d) (hS : Shp M) (hT : KT M T) (hB : ST M) (hst : st < 3) (ha : iv M 7 2 = (a : Int)) (hit : ∀ i, i < 4 → iv M 10 i = it i) (hy : ∀ q it' M', itY T st 4 a 0 it = .inr (q, it') → (nxT T q = -1 ∨ nxT T q = 59) → KJ M M' → iv M' 7 2 = ((q : Nat) : Int) → iv M' 7 3 = iv M 7 3 → (∀ i, i < 4 → iv M' 10 i = it' i) → Q (some (vI 1)) M') (hn : ∀ w M', (itY T st 4 a 0 it = .inl w ∨ ∃ it', itY T st 4 a 0 it = .inr (w, it') ∧ ¬ (nxT T w = -1 ∨ nxT T w = 59)) → KJ M M' → iv M' 7 3 = ((w : Nat) : Int) → Q (some (vI 0)) M') : Call d mX2_readItems [vR 9, vR 7, vI (st : Int)] M Q := by
  obtain ⟨e, rfl⟩ := dd (d := d) (by omega)
  have h240 := hT.2.1
  refine vj_readItems (by omega) hS ?_
  have key : ∀ (f i g a : Nat) (it : Nat → Int) (M1 : jM) (l5 l6 l7 : Option jV), i + f = 4 → g < 16 → cbN g = i → KJ M M1 → iv M1 7 2 = (a : Int) → a ≤ 1000 → iv M1 7 3 = iv M 7 3 → (∀ i, i < 4 → iv M1 10 i = it i) → (∀ q it' M', itY T st f a g it = .inr (q, it') → (nxT T q = -1 ∨ nxT T q = 59) → KJ M M' → iv M' 7 2 = ((q : Nat) : Int) → iv M' 7 3 = iv M 7 3 → (∀ i, i < 4 → iv M' 10 i = it' i) → Q (some (vI 1)) M') → (∀ w M', (itY T st f a g it = .inl w ∨ ∃ it', itY T st f a g it = .inr (w, it') ∧ ¬ (nxT T w = -1 ∨ nxT T w = 59)) → KJ M M' → iv M' 7 3 = ((w : Nat) : Int) → Q (some (vI 0)) M') → Run (e + 1) mX2_readItems 5 [some (vR 9), some (vR 7), some (vI (st : Int)), some (vI (g : Int)), some (vI (i : Int)), l5, l6, l7] [] M1 Q := by
    intro f
    induction f with
    | zero =>
      intro i g a it M1 l5 l6 l7 hi hg hc k1 e1 ha e3 hit hy hn
      have s1 := k1.1.shp hS
      have T1 := k1.ki.kt hT
      have B1 := k1.ki.stat hB
      simp only [itY] at hy hn
      refine vj_readItems_5 (by omega) s1 ⟨fun z => absurd z (by omega), fun _ => c_next (by omega) s1 T1 e1 (fun M2 k2 e2 => ⟨_, rfl, k2.1.shp s1, fun z => ?_, fun z => ⟨fun y => ?_, fun y => ?_⟩⟩)⟩
      · exact hy _ _ M2 rfl (Or.inl (by rw [nxT_sk]; exact z)) (k1.trans k2.k3.kj) e2 ((k2.2 3 (by decide)).trans e3) (fun i hi => by rw [k2.1.eiv (by decide)]; exact hit i hi)
      · have s2 := k2.1.shp s1
        have nz : ¬ (nxT T (skT T a) = -1 ∨ nxT T (skT T a) = 59) := by rw [nxT_sk]; omega
        refine c_itemOf (by omega) s2 (k2.k3.ki.stat B1) hst ⟨_, rfl, s2, fun x N hN _ => ?_, fun x => ⟨fun v => ?_, fun v N hN _ => ?_⟩⟩
        · exact hn _ N (Or.inr ⟨_, rfl, nz⟩) (k1.trans (k2.k3.si hN).kj) (by rw [hN, iv_si, if_pos ⟨rfl, rfl⟩]; exact e2)
        · have him := imF_in (st := st) (c := nxT T a)
          obtain ⟨k, hk⟩ : ∃ k : Nat, imF st (nxT T a) = (k : Int) := ⟨(imF st (nxT T a)).toNat, by omega⟩
          rw [hk, (bits (k := k) hg (by omega)).2.2.2.1, bits_full hg (by omega) (by omega)] at v
          exact absurd rfl v
        · exact hn _ N (Or.inr ⟨_, rfl, nz⟩) (k1.trans (k2.k3.si hN).kj) (by rw [hN, iv_si, if_pos ⟨rfl, rfl⟩]; exact e2)
      · exact hy _ _ M2 rfl (Or.inr (by rw [nxT_sk]; exact Classical.not_not.mp y)) (k1.trans k2.k3.kj) e2 ((k2.2 3 (by decide)).trans e3) (fun i hi => by rw [k2.1.eiv (by decide)]; exact hit i hi)
    | succ f ih =>
      intro i g a it M1 l5 l6 l7 hi hg hc k1 e1 ha e3 hit hy hn
      have s1 := k1.1.shp hS
      have T1 := k1.ki.kt hT
      have B1 := k1.ki.stat hB
      simp only [itY] at hy hn
      have him := imF_in (st := st) (c := nxT T a)
      refine vj_readItems_5 (by omega) s1 ⟨fun z => absurd z (by omega), fun _ => c_next (by omega) s1 T1 e1 (fun M2 k2 e2 => ⟨_, rfl, k2.1.shp s1, fun z => ?_, fun z => ⟨fun y => ?_, fun y => ?_⟩⟩)⟩
      · rw [if_pos (Or.inl (imF_no hst (Or.inl z)))] at hy
        exact hy _ _ M2 rfl (Or.inl (by rw [nxT_sk]; exact z)) (k1.trans k2.k3.kj) e2 ((k2.2 3 (by decide)).trans e3) (fun i hi => by rw [k2.1.eiv (by decide)]; exact hit i hi)
      · have s2 := k2.1.shp s1
        have nz : ¬ (nxT T (skT T a) = -1 ∨ nxT T (skT T a) = 59) := by rw [nxT_sk]; omega
        have hlt : skT T a < T.2 := nxT_lt z
        refine c_itemOf (by omega) s2 (k2.k3.ki.stat B1) hst ⟨_, rfl, s2, fun x N hN _ => ?_, fun x => ?_⟩
        · rw [if_pos (Or.inl x)] at hn
          exact hn _ N (Or.inr ⟨_, rfl, nz⟩) (k1.trans (k2.k3.si hN).kj) (by rw [hN, iv_si, if_pos ⟨rfl, rfl⟩]; exact e2)
        · obtain ⟨k, hk⟩ : ∃ k : Nat, imF st (nxT T a) = (k : Int) := ⟨(imF st (nxT T a)).toNat, by omega⟩
          rw [hk, Int.toNat_natCast] at hy hn
          obtain ⟨b1, b2, b3, b4, b5⟩ := bits (k := k) hg (by omega)
          rw [hk, b4]
          refine ⟨fun v N hN sN => ?_, fun v N hN _ => ?_⟩
          · have hb : g.testBit k = false := by
              cases hb : g.testBit k with
              | false => rfl
              | true => rw [hb] at v; exact absurd rfl v
            have nz2 : ¬ ((k : Int) = -1 ∨ g.testBit k = true) := by
              rintro (u | u)
              · omega
              · rw [hb] at u; exact absurd u (by decide)
            rw [if_neg nz2] at hy hn
            rw [step_e (T1.kf k2.kf) e2 hlt] at hN
            have kN : KN M1 N := k2.si hN
            have eN : iv N 7 2 = ((skT T a + 1 : Nat) : Int) := by rw [hN, iv_si, if_pos ⟨rfl, rfl⟩]
            refine c_number (m := 2) (by omega) sN (T1.kf kN.kf) eN (by decide) (fun q v hq M3 k3 e32 e33 => ⟨_, rfl, k3.1.shp sN, fun _ => ?_, fun u => absurd ?_ u⟩) (fun w hw M3 k3 e33 => ⟨_, rfl, k3.1.shp sN, fun u => absurd rfl u, fun _ => ?_⟩)
            · rw [hq] at hy hn
              dsimp only at hy hn
              obtain ⟨v1, v2⟩ := nmT_v (by decide) hq
              obtain ⟨q1, q2⟩ := nmT_q (by omega) hq
              have hs1 := (skT_in (T := T) (skT T a + 1)).1
              have kk := k1.trans (kN.k3.trans k3).kj
              have B3 := kk.ki.stat hB
              rw [ix4 (by omega) (by omega), atv_n (by omega : 4 * st + k < 12), atv_n (by omega : 4 * st + k < 12), (B3 (4 * st + k) (by omega)).2.1, (B3 (4 * st + k) (by omega)).2.2.1]
              have wq : w32 (iv M3 7 2 - 1) = ((q - 1 : Nat) : Int) := by rw [e32, w32_i (by omega) (by omega)]; omega
              refine ⟨fun lo N4 hN4 _ => ?_, fun lo => ⟨fun hi4 N4 hN4 s4 => ?_, fun hi4 N4 hN4 _ => ?_⟩⟩
              · rw [if_pos (Or.inl lo)] at hn
                rw [wq] at hN4
                exact hn _ N4 (Or.inl rfl) (kk.trans ((KN.refl.k3.si hN4).kj)) (by rw [hN4, iv_si, if_pos ⟨rfl, rfl⟩])
              · rw [if_neg (by omega)] at hy hn
                have f4 : Fr (fun r => r = 10) M3 N4 := by rw [hN4]; exact fr_ptv rfl
                have k4 : KJ M3 N4 := ⟨f4.mono (by intro r hr; omega), fun i _ _ => by rw [f4.eiv (by decide)]⟩
                rw [b3, w32s (by omega)]
                refine ih (i + 1) (g ||| 2 ^ k) q (upI it k v) N4 _ _ _ (by omega) b1 (by rw [b2 hb, hc]) (kk.trans k4) (by rw [f4.eiv (by decide)]; exact e32) (by omega) ?_ (fun j hj => ?_) hy hn
                · rw [f4.eiv (by decide), e33, kN.2 3 (by decide)]; exact e3
                · rw [hN4, iv_ptv]
                  unfold upI
                  by_cases u : j = k
                  · rw [if_pos u, if_pos ⟨rfl, by omega, by omega⟩]
                  · rw [if_neg u, if_neg (by omega), k3.1.eiv (by decide), kN.1.eiv (by decide)]
                    exact hit j hj
              · rw [if_pos (Or.inr (by omega))] at hn
                rw [wq] at hN4
                exact hn _ N4 (Or.inl rfl) (kk.trans ((KN.refl.k3.si hN4).kj)) (by rw [hN4, iv_si, if_pos ⟨rfl, rfl⟩])
            · have := (nmT_v (by decide) hq).1
              omega
            · rw [hw] at hn
              exact hn _ M3 (Or.inl rfl) (k1.trans (kN.k3.trans k3).kj) e33
          · have hb : g.testBit k = true := by
              cases hb : g.testBit k with
              | true => rfl
              | false => rw [hb] at v; exact absurd (by decide) v
            rw [if_pos (Or.inr hb)] at hn
            exact hn _ N (Or.inr ⟨_, rfl, nz⟩) (k1.trans (k2.k3.si hN).kj) (by rw [hN, iv_si, if_pos ⟨rfl, rfl⟩]; exact e2)
      · have y := Classical.not_not.mp y
        rw [if_pos (Or.inl (imF_no hst (Or.inr y)))] at hy
        exact hy _ _ M2 rfl (Or.inr (by rw [nxT_sk]; exact y)) (k1.trans k2.k3.kj) e2 ((k2.2 3 (by decide)).trans e3) (fun i hi => by rw [k2.1.eiv (by decide)]; exact hit i hi)
  by_cases ha2 : a ≤ 1000
  · exact key 4 0 0 a it M none none none rfl (by decide) rfl ⟨Fr.refl, fun _ _ _ => rfl⟩ ha ha2 rfl hit hy hn
  · obtain ⟨z1, z2⟩ := nxT_end (T := T) (a := a) (by omega)
    have hi0 : itY T st 4 a 0 it = .inr (a, it) := by
      simp only [itY]
      rw [if_pos (Or.inl (imF_no hst (Or.inl z1))), z2]
    refine vj_readItems_5 (by omega) hS ⟨fun z => absurd z (by decide), fun _ => c_next (by omega) hS hT ha (fun M2 k2 e2 => ⟨_, rfl, k2.1.shp hS, fun z => ?_, fun z => absurd z1 z⟩)⟩
    rw [z2] at e2
    exact hy a it M2 hi0 (Or.inl z1) k2.k3.kj e2 (k2.2 3 (by decide)) (fun i hi => by rw [k2.1.eiv (by decide)]; exact hit i hi)
theorem c_sort {c : Int} (hd : 5 ≤ d) (hS : Shp M) (hB : IB M Y) (h : Q (some (vI (kdY Y c))) M) : Call d mX2_sortThatMayBegin [vR 9, vI c] M Q := by
  obtain ⟨e, rfl⟩ := dd (d := d) (by omega)
  obtain ⟨b1, b2, b3, _⟩ := hB
  have go : ∀ z, z = kdY Y c → Q (some (vI z)) M := fun z hz => by rw [hz]; exact h
  unfold kdY at go
  refine vj_sort (by omega) hS ⟨fun z => go _ ?_, fun z => go _ ?_, fun z => go _ ?_, fun z => go _ ?_, fun z => go _ ?_, fun z => go _ ?_⟩
  · rw [b2]
    by_cases y : (8 : Int) ≤ (Y.np : Int)
    · rw [if_pos y, if_neg (by omega), if_neg (by omega), if_neg (by omega)]
    · rw [if_neg y, if_neg (by omega), if_pos ⟨z, by omega⟩]
  · rw [if_neg (by omega), if_neg (by omega), if_neg (by omega)]
  · rw [if_neg (by omega), if_neg (by omega), if_neg (by omega)]
  · rw [b1]
    cases hr : Y.rt with
    | true => rw [if_pos rfl, if_neg (by decide), if_neg (fun y => absurd y.2 (by decide)), if_neg (by omega), if_neg (by omega)]
    | false => rw [if_pos (show (if false = true then (1 : Int) else 0) = 0 by decide), if_pos ⟨z, rfl⟩]
  · rw [b3]
    by_cases y : (12 : Int) ≤ (Y.nt : Int)
    · rw [if_pos y, if_neg (by omega), if_neg (by omega), if_neg (by omega)]
    · rw [if_neg y, if_neg (by omega), if_neg (by omega), if_pos ⟨z, by omega⟩]
  · rw [if_neg (by omega), if_neg (by omega), if_neg (by omega)]
theorem ite_al {c : Prop} [Decidable c] {x y z : Int} (h : ¬ c → y = z) : (if c then x else y) = (if c then x else z) := by
  by_cases k : c
  · rw [if_pos k, if_pos k]
  · rw [if_neg k, if_neg k]; exact h k
theorem c_keep (hd : 5 ≤ d) (hS : Shp M) (hB : IB M Y) (hR : RdrX M) (hY : okYr Y) (hst : st < 3) (h8 : st = 1 → Y.np < 8) (h12 : st = 2 → Y.nt < 12) (hit : ∀ i, i < 4 → iv M 10 i = it i) (hok : okIt st it) (h : ∀ M', Fr (fun r => 9 ≤ r ∧ r ≤ 18) M M' → IB M' (kpY Y st it) → RdrX M' → Q none M') : Call d mX2_keep [vR 9, vI (st : Int)] M Q := by
  obtain ⟨e, rfl⟩ := dd (d := d) (by omega)
  obtain ⟨b1, b2, b3, b4, b5, b6⟩ := hB
  obtain ⟨_, _, _, y8, y12⟩ := hY
  have i0 : atv M 4 10 (0 : Int) = it 0 := (atv_n (M := M) (n := 4) (r := 10) (i := 0) (by decide)).trans (hit 0 (by decide))
  refine vj_keep (by omega) hS ⟨fun z => ⟨fun z2 N1 h1 _ N2 h2 _ N3 h3 _ N4 h4 _ N5 h5 _ => ?_, fun z2 N1 h1 _ N2 h2 _ N3 h3 _ N4 h4 _ => ?_⟩, fun z N1 h1 _ N2 h2 _ => ?_⟩
  · have hst2 : st = 2 := by omega
    have ht := h12 hst2
    have r10 : ∀ (A B : jM) (r : Nat) (i v : Int), r ≠ 10 → B = ptv A 12 r i v → iv B 10 = iv A 10 := fun A B r i v hr hB => by rw [hB]; exact (fr_ptv (P := fun s => s = r) rfl).eiv (fun y => hr y.symm)
    have r9 : ∀ (A B : jM) (r : Nat) (i v : Int), r ≠ 9 → B = ptv A 12 r i v → iv B 9 = iv A 9 := fun A B r i v hr hB => by rw [hB]; exact (fr_ptv (P := fun s => s = r) rfl).eiv (fun y => hr y.symm)
    have at10 : ∀ (A : jM) (k : Nat), k < 4 → iv A 10 = iv M 10 → atv A 4 10 (k : Int) = it k := fun A k hk hA => by rw [atv_n hk, hA]; exact hit k hk
    rw [b3, i0] at h1
    have p1 := r10 _ _ _ _ _ (by decide) h1
    have q1 := r9 _ _ _ _ _ (by decide) h1
    rw [q1, b3, show atv N1 4 10 (1 : Int) = it 1 from at10 N1 1 (by decide) p1] at h2
    have p2 := (r10 _ _ _ _ _ (by decide) h2).trans p1
    have q2 := (r9 _ _ _ _ _ (by decide) h2).trans q1
    rw [q2, b3, show atv N2 4 10 (2 : Int) = it 2 from at10 N2 2 (by decide) p2] at h3
    have p3 := (r10 _ _ _ _ _ (by decide) h3).trans p2
    have q3 := (r9 _ _ _ _ _ (by decide) h3).trans q2
    rw [q3, b3, show atv N3 4 10 (3 : Int) = it 3 from at10 N3 3 (by decide) p3] at h4
    have q4 := (r9 _ _ _ _ _ (by decide) h4).trans q3
    rw [q4, b3, w32s (by omega)] at h5
    have f : Fr (fun r => r = 9 ∨ (15 ≤ r ∧ r ≤ 18)) M N5 := by
      rw [h5, h4, h3, h2, h1]
      exact ((((fr_ptv (P := fun r => r = 9 ∨ (15 ≤ r ∧ r ≤ 18)) (by omega)).pv (by omega)).pv (by omega)).pv (by omega)).ps (by omega)
    have e9 : ∀ i, iv N5 9 i = if i = 7 then ((Y.nt + 1 : Nat) : Int) else iv M 9 i := fun i => by
      rw [h5, iv_si, q4]
      by_cases y : i = 7
      · rw [if_pos ⟨rfl, y⟩, if_pos y]
      · rw [if_neg (by omega), if_neg y]
    have val : ∀ k : Nat, k < Y.nt + 1 → iv N5 15 k = (if k = Y.nt then it 0 else iv M 15 k) ∧ iv N5 16 k = (if k = Y.nt then it 1 else iv M 16 k) ∧ iv N5 17 k = (if k = Y.nt then it 2 else iv M 17 k) ∧ iv N5 18 k = (if k = Y.nt then it 3 else iv M 18 k) := fun k hk => by
      have up : ∀ (A B : jM) (r : Nat) (x : Int), B = ptv A 12 r (Y.nt : Int) x → ∀ s, iv B s k = if s = r ∧ k = Y.nt then x else iv A s k := by
        intro A B r x hB s
        rw [hB, iv_ptv]
        by_cases y : s = r ∧ k = Y.nt
        · rw [if_pos y, if_pos ⟨y.1, by omega, by omega⟩]
        · rw [if_neg y, if_neg (by omega)]
      have u1 := up _ _ _ _ h1
      have u2 := up _ _ _ _ h2
      have u3 := up _ _ _ _ h3
      have u4 := up _ _ _ _ h4
      have e5 : ∀ s, s ≠ 9 → iv N5 s k = iv N4 s k := fun s hs => by rw [h5, iv_si, if_neg (by omega)]
      rw [e5 15 (by decide), e5 16 (by decide), e5 17 (by decide), e5 18 (by decide)]
      simp [u1, u2, u3, u4]
    refine h N5 (f.mono (by intro r hr; omega)) ?_ (hR.cg (f.eiv (by omega)) (f.eiv (by omega)) (f.eiv (by omega)))
    have ek : kpY Y st it = (Y.1, Y.2.1, (Y.nt + 1, fun p k => if p = Y.nt then it k else Y.th p k)) := by rw [hst2]; rfl
    rw [ek]
    refine ⟨by rw [e9]; exact b1, by rw [e9]; exact b2, by rw [e9]; rfl, fun i hi => by rw [f.eiv (by omega)]; exact b4 i hi, fun p hp => by rw [f.eiv (by omega), f.eiv (by omega), f.eiv (by omega)]; exact b5 p hp, fun k hk => ?_⟩
    have hk : k < Y.nt + 1 := hk
    obtain ⟨v1, v2, v3, v4⟩ := val k hk
    rw [v1, v2, v3, v4]
    exact ⟨ite_al (fun y => (b6 k (by omega)).1), ite_al (fun y => (b6 k (by omega)).2.1), ite_al (fun y => (b6 k (by omega)).2.2.1), ite_al (fun y => (b6 k (by omega)).2.2.2)⟩
  · have hst1 : st = 1 := by omega
    have hp8 := h8 hst1
    have r10 : ∀ (A B : jM) (r : Nat) (i v : Int), r ≠ 10 → B = ptv A 8 r i v → iv B 10 = iv A 10 := fun A B r i v hr hB => by rw [hB]; exact (fr_ptv (P := fun s => s = r) rfl).eiv (fun y => hr y.symm)
    have r9 : ∀ (A B : jM) (r : Nat) (i v : Int), r ≠ 9 → B = ptv A 8 r i v → iv B 9 = iv A 9 := fun A B r i v hr hB => by rw [hB]; exact (fr_ptv (P := fun s => s = r) rfl).eiv (fun y => hr y.symm)
    have at10 : ∀ (A : jM) (k : Nat), k < 4 → iv A 10 = iv M 10 → atv A 4 10 (k : Int) = it k := fun A k hk hA => by rw [atv_n hk, hA]; exact hit k hk
    rw [b2, i0] at h1
    have p1 := r10 _ _ _ _ _ (by decide) h1
    have q1 := r9 _ _ _ _ _ (by decide) h1
    rw [q1, b2, show atv N1 4 10 (1 : Int) = it 1 from at10 N1 1 (by decide) p1] at h2
    have p2 := (r10 _ _ _ _ _ (by decide) h2).trans p1
    have q2 := (r9 _ _ _ _ _ (by decide) h2).trans q1
    rw [q2, b2, show atv N2 4 10 (2 : Int) = it 2 from at10 N2 2 (by decide) p2] at h3
    have q3 := (r9 _ _ _ _ _ (by decide) h3).trans q2
    rw [q3, b2, w32s (by omega)] at h4
    have f : Fr (fun r => r = 9 ∨ (12 ≤ r ∧ r ≤ 14)) M N4 := by
      rw [h4, h3, h2, h1]
      exact (((fr_ptv (P := fun r => r = 9 ∨ (12 ≤ r ∧ r ≤ 14)) (by omega)).pv (by omega)).pv (by omega)).ps (by omega)
    have e9 : ∀ i, iv N4 9 i = if i = 3 then ((Y.np + 1 : Nat) : Int) else iv M 9 i := fun i => by
      rw [h4, iv_si, q3]
      by_cases y : i = 3
      · rw [if_pos ⟨rfl, y⟩, if_pos y]
      · rw [if_neg (by omega), if_neg y]
    have val : ∀ k : Nat, iv N4 12 k = (if k = Y.np then it 0 else iv M 12 k) ∧ iv N4 13 k = (if k = Y.np then it 1 else iv M 13 k) ∧ iv N4 14 k = (if k = Y.np then it 2 else iv M 14 k) := fun k => by
      have up : ∀ (A B : jM) (r : Nat) (x : Int), B = ptv A 8 r (Y.np : Int) x → ∀ s, iv B s k = if s = r ∧ k = Y.np then x else iv A s k := by
        intro A B r x hB s
        rw [hB, iv_ptv]
        by_cases y : s = r ∧ k = Y.np
        · rw [if_pos y, if_pos ⟨y.1, by omega, by omega⟩]
        · rw [if_neg y, if_neg (by omega)]
      have u1 := up _ _ _ _ h1
      have u2 := up _ _ _ _ h2
      have u3 := up _ _ _ _ h3
      have e5 : ∀ s, s ≠ 9 → iv N4 s k = iv N3 s k := fun s hs => by rw [h4, iv_si, if_neg (by omega)]
      rw [e5 12 (by decide), e5 13 (by decide), e5 14 (by decide)]
      simp [u1, u2, u3]
    have ek : kpY Y st it = (Y.1, (Y.np + 1, fun p k => if p = Y.np then it k else Y.pr p k), Y.2.2) := by rw [hst1]; rfl
    rw [hst1] at hok
    have o0 := hok 0 (by decide)
    have o1 := hok 1 (by decide)
    have o2 := hok 2 (by decide)
    have w0 : 1 ≤ it 0 ∧ it 0 ≤ 99 := o0
    have w1 : 1 ≤ it 1 ∧ it 1 ≤ 99 := o1
    have w2 : 0 ≤ it 2 ∧ it 2 ≤ 2 := o2
    refine h N4 (f.mono (by intro r hr; omega)) ?_ (fun i hi => ?_)
    · rw [ek]
      refine ⟨by rw [e9]; exact b1, by rw [e9]; rfl, by rw [e9]; exact b3, fun i hi => by rw [f.eiv (by omega)]; exact b4 i hi, fun p hp => ?_, fun k hk => by rw [f.eiv (by omega), f.eiv (by omega), f.eiv (by omega), f.eiv (by omega)]; exact b6 k hk⟩
      have hp : p < Y.np + 1 := hp
      obtain ⟨v1, v2, v3⟩ := val p
      rw [v1, v2, v3]
      exact ⟨ite_al (fun y => (b5 p (by omega)).1), ite_al (fun y => (b5 p (by omega)).2.1), ite_al (fun y => (b5 p (by omega)).2.2)⟩
    · obtain ⟨v1, v2, v3⟩ := val i
      rw [v1, v2, v3]
      by_cases y : i = Y.np
      · rw [if_pos y, if_pos y, if_pos y]; omega
      · rw [if_neg y, if_neg y, if_neg y]; exact hR i hi
  · have hst0 : st = 0 := by omega
    have f : Fr (fun r => r = 9 ∨ r = 11) M N2 := by
      rw [h2, h1]
      exact (fr_si (P := fun r => r = 9 ∨ r = 11) (Or.inl rfl)).pc (Or.inr rfl)
    have e9 : ∀ i, iv N2 9 i = if i = 2 then 1 else iv M 9 i := fun i => by
      rw [h2, iv_cpr, if_neg (by omega), h1, iv_si]
      by_cases y : i = 2
      · rw [if_pos ⟨rfl, y⟩, if_pos y]
      · rw [if_neg (by omega), if_neg y]
    have ek : kpY Y st it = ((true, it), Y.2) := by rw [hst0]; rfl
    refine h N2 (f.mono (by intro r hr; omega)) ?_ (hR.cg (f.eiv (by omega)) (f.eiv (by omega)) (f.eiv (by omega)))
    rw [ek]
    refine ⟨by rw [e9]; rfl, by rw [e9]; exact b2, by rw [e9]; exact b3, fun i hi => ?_, fun p hp => by rw [f.eiv (by omega), f.eiv (by omega), f.eiv (by omega)]; exact b5 p hp, fun k hk => by rw [f.eiv (by omega), f.eiv (by omega), f.eiv (by omega), f.eiv (by omega)]; exact b6 k hk⟩
    rw [h2, iv_cpr, if_pos ⟨rfl, hi⟩, h1, iv_si, if_neg (by omega)]
    exact hit i hi
end CIsl
