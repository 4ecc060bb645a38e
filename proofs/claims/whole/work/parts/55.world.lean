/-! THE WORLD: what the class and the model both are pictures of -/
def itF {α : Type} (g : α → α) : Nat → α → α
  | 0, a => a
  | n + 1, a => g (itF g n a)
/-- the riddle: as told, h hours later -/
def tqS (I : jI) (t : jS) (h : Nat) : jS := itF (pL I) h t
/-- with a thought more, by its code -/
def cdP (c : Nat) : Nat := c / 1000
def cdO (c : Nat) : Nat := c / 100 % 10
def cdK (c : Nat) : Nat := c / 10 % 10
def cdT (c : Nat) : Nat := c % 10
def moS (t : jS) (c : Nat) : jS := pLay t (4 * cdP c + (fE (t 1) (cdP c)).toNat) (cdO c : Nat) (cdK c : Nat) (cdT c : Nat)
/-- what one weighs then -/
def trW (I : jI) (t : jS) (c h p : Nat) : Int := wtS (pW I (tqS I (moS t c) h)) p
def fitOk (I : jI) (t : jS) (c : Nat) : Prop := cdP c < I.np ∧ cdO c < I.np ∧ cdP c ≠ cdO c ∧ cdK c < 3 ∧ 1 ≤ cdT c ∧ fG (I.mi (cdP c)) (cdK c : Nat) = 1 ∧ fE (t 1) (cdP c) ≠ -1
def fitP (I : jI) (t : jS) (nn : Nat) (nt : Nat → Nat → Int) (c : Nat) : Prop := fitOk I t c ∧ ∀ k, k < nn → (1000 * nt k 2 ≤ trW I t c (nt k 1).toNat (nt k 0).toNat ↔ nt k 3 = 1)
noncomputable def fitB (I : jI) (t : jS) (nn : Nat) (nt : Nat → Nat → Int) (c : Nat) : Bool := @decide (fitP I t nn nt c) (Classical.propDecidable _)
theorem fitB_t {I : jI} {t : jS} {nn : Nat} {nt : Nat → Nat → Int} {c : Nat} : fitB I t nn nt c = true ↔ fitP I t nn nt c := @decide_eq_true_iff _ (Classical.propDecidable _)
noncomputable def fitN (I : jI) (t : jS) (nn : Nat) (nt : Nat → Nat → Int) : Nat → Nat
  | 0 => 0
  | c + 1 => if fitB I t nn nt c = true then fitN I t nn nt c + 1 else fitN I t nn nt c
/-- the mass of a thought more, h hours later (0: it is gone) -/
def moM (I : jI) (t : jS) (p k g : Nat) : Nat → Int
  | 0 => massF I p g k 0 (t 0 7) 0
  | h + 1 => if moM I t p k g h = 0 then 0 else massF I p g k ((h + 1 : Nat) : Int) (t 0 7) ((h + 1 : Nat) : Int)
/-- the riddle solved, in the class -/
def RZ (M : jM) (I : jI) (t : jS) (nn : Nat) (nt : Nat → Nat → Int) : Prop :=
  (∀ h i, h < 9 → i < 32 → iv M 400 (32 * h + i) = massS I (tqS I t h) i) ∧
  (∀ h p, h < 9 → p < I.np → lg M 401 (8 * h + p) = wtS (pW I (tqS I t h)) p) ∧
  (∀ p k g h, p < I.np → fE (t 1) p ≠ -1 → k < 3 → fG (I.mi p) (k : Nat) = 1 → 1 ≤ g → g ≤ 9 → h < 9 → iv M 402 (((p * 3 + k) * 9 + (g - 1)) * 9 + h) = moM I t p k g h) ∧
  iv M 387 11 = (fitN I t nn nt (1000 * I.np) : Nat) ∧ fitN I t nn nt (1000 * I.np) ≤ 1512 ∧
  ∀ c, c < 1000 * I.np → fitP I t nn nt c → iv M 403 (fitN I t nn nt c) = (c : Nat)
/-- a state with what is kept -/
abbrev jA : Type := jS × Nat × (Nat → jS)
/-- island; now; told; picture; seen; tape; refused; memory; laws' number, the one that holds; laws -/
abbrev kW : Type := jI × jA × jS × Option jS × (Nat × (Nat → Nat → Int)) × (Nat × (Nat → Int)) × (Nat → Int) × Int × (Nat × Int) × (Nat → ((Nat → Int) → Int))
abbrev kW.I (W : kW) : jI := W.1
abbrev kW.A (W : kW) : jA := W.2.1
abbrev kW.s (W : kW) : jS := W.2.1.1
abbrev kW.K (W : kW) : Nat := W.2.1.2.1
abbrev kW.P (W : kW) : Nat → jS := W.2.1.2.2
abbrev kW.t (W : kW) : jS := W.2.2.1
abbrev kW.pc (W : kW) : Option jS := W.2.2.2.1
abbrev kW.nn (W : kW) : Nat := W.2.2.2.2.1.1
abbrev kW.nt (W : kW) : Nat → Nat → Int := W.2.2.2.2.1.2
abbrev kW.tl (W : kW) : Nat := W.2.2.2.2.2.1.1
abbrev kW.tb (W : kW) : Nat → Int := W.2.2.2.2.2.1.2
abbrev kW.rf (W : kW) : Nat → Int := W.2.2.2.2.2.2.1
abbrev kW.me (W : kW) : Int := W.2.2.2.2.2.2.2.1
abbrev kW.lc (W : kW) : Nat := W.2.2.2.2.2.2.2.2.1.1
abbrev kW.lh (W : kW) : Int := W.2.2.2.2.2.2.2.2.1.2
abbrev kW.lw (W : kW) : Nat → ((Nat → Int) → Int) := W.2.2.2.2.2.2.2.2.2
def kW.setA (W : kW) (a : jA) : kW := (W.1, a, W.2.2)
def kW.setPc (W : kW) (u : Option jS) : kW := (W.1, W.2.1, W.2.2.1, u, W.2.2.2.2)
def kW.setN (W : kW) (u : Nat × (Nat → Nat → Int)) : kW := (W.1, W.2.1, W.2.2.1, W.2.2.2.1, u, W.2.2.2.2.2)
def kW.setT (W : kW) (u : Nat × (Nat → Int)) : kW := (W.1, W.2.1, W.2.2.1, W.2.2.2.1, W.2.2.2.2.1, u, W.2.2.2.2.2.2)
def kW.setRf (W : kW) (u : Nat → Int) : kW := (W.1, W.2.1, W.2.2.1, W.2.2.2.1, W.2.2.2.2.1, W.2.2.2.2.2.1, u, W.2.2.2.2.2.2.2)
def kW.setMe (W : kW) (u : Int) : kW := (W.1, W.2.1, W.2.2.1, W.2.2.2.1, W.2.2.2.2.1, W.2.2.2.2.2.1, W.2.2.2.2.2.2.1, u, W.2.2.2.2.2.2.2.2)
/-- one refusal more -/
def kW.ref (W : kW) (w : Nat) : kW := W.setRf (fun i => if i = w then w32 (W.rf w + 1) else W.rf i)
/-- what every world keeps to -/
def OKW (W : kW) : Prop := WI W.I ∧ (W.I.np = 0 ∨ 2 ≤ W.I.np) ∧ (0 < W.I.np → GS W.I.np W.s ∧ GS W.I.np W.t ∧ W.t 0 9 = 0) ∧ (W.I.np = 0 → W.s 0 9 = 0 ∧ W.K = 0 ∧ W.pc = none ∧ W.nn = 0) ∧
  (W.K ≤ 40 ∧ ∀ k, k < W.K → GS W.I.np (W.P k)) ∧ (∀ u, W.pc = some u → GS W.I.np u) ∧ (W.nn ≤ 10 ∧ ∀ k, k < W.nn → 0 ≤ W.nt k 0 ∧ W.nt k 0 < W.I.np ∧ 0 ≤ W.nt k 1 ∧ W.nt k 1 ≤ 8 ∧ 0 ≤ W.nt k 2 ∧ W.nt k 2 ≤ 9999 ∧ (W.nt k 3 = 0 ∨ W.nt k 3 = 1)) ∧
  (W.tl ≤ 240 ∧ ∀ i, i < W.tl → 1 ≤ W.tb i ∧ W.tb i ≤ 255) ∧ (0 ≤ W.me ∧ W.me ≤ 9) ∧ W.lc ≤ 4 ∧ ((W.lh = -1 ∧ W.I.lw = none) ∨ (0 ≤ W.lh ∧ W.lh < W.lc ∧ W.I.lw = some (W.lw W.lh.toNat)))
-- the class
def NowX (M : jM) (W : kW) : Prop := (0 < W.I.np → SB M 33 W.s ∧ SL M 33 W.s) ∧ iv M 33 9 = W.s 0 9 ∧ PA M W.K W.P
def PicX (M : jM) (W : kW) : Prop := iv M 6 14 = (if W.pc.isSome = true then 1 else 0) ∧ ∀ u, W.pc = some u → SB M 57 u ∧ SL M 57 u
def TolX (M : jM) (W : kW) : Prop := 0 < W.I.np → SB M 41 W.t
def RidX (M : jM) (W : kW) : Prop := iv M 387 4 = (W.nn : Int) ∧ (∀ k, k < W.nn → iv M 388 k = W.nt k 0 ∧ iv M 389 k = W.nt k 1 ∧ iv M 390 k = W.nt k 2 ∧ iv M 391 k = W.nt k 3) ∧ (iv M 387 5 = 0 ∨ (iv M 387 5 = 1 ∧ RZ M W.I W.t W.nn W.nt))
def TapX (M : jM) (W : kW) : Prop := iv M 7 1 = (W.tl : Int) ∧ ∀ i, i < W.tl → iv M 8 i = W.tb i
def LawX (M : jM) (W : kW) : Prop := iv M 6 4 = (W.lc : Int) ∧ iv M 6 5 = W.lh ∧ ∃ G : Nat → Nat, (∀ k, k < W.lc → rv M 27 k = G k ∧ 500 ≤ G k ∧ LawAt M (G k) ∧ LawW M (G k) ∧ W.lw k = lawF M (G k)) ∧ (∀ j k, j < k → k < W.lc → G j + 7 ≤ G k) ∧ (W.lh = -1 → rv M 29 5 = 0) ∧ (W.lh ≠ -1 → rv M 29 5 = G W.lh.toNat)
def RefX (M : jM) (W : kW) : Prop := ∀ i, i < 5 → iv M 28 i = W.rf i
def RdrX (M : jM) : Prop := ∀ i, i < 8 → 0 ≤ iv M 12 i ∧ iv M 12 i ≤ 99 ∧ 0 ≤ iv M 13 i ∧ iv M 13 i ≤ 99 ∧ 0 ≤ iv M 14 i ∧ iv M 14 i ≤ 2
def LgtX (M : jM) : Prop := (∀ i, i < 60 → iv M 48 i = 0) ∧ ∀ i, i < 32 → (0 ≤ iv M 43 i ∧ iv M 43 i ≤ 2) ∧ (0 ≤ iv M 44 i ∧ iv M 44 i ≤ 9) ∧ 0 ≤ iv M 45 i ∧ iv M 45 i ≤ 99
def CX (M : jM) (W : kW) : Prop := Shp M ∧ IA M W.I ∧ NowX M W ∧ PicX M W ∧ TolX M W ∧ RidX M W ∧ TapX M W ∧ LawX M W ∧ RefX M W ∧ (RdrX M ∧ LgtX M) ∧ iv M 6 6 = W.me
-- the model
def tlF (th : Nat → Int) : Nat → jS → jS
  | 0, s => s
  | k + 1, s => pLay (tlF th k s) (4 * (th (4 * k)).toNat + (fE ((tlF th k s) 1) (th (4 * k)).toNat).toNat) (th (4 * k + 1)) (th (4 * k + 2)) (th (4 * k + 3))
def tl0 (b : Nat → Int) (w : Int) : jS := fun f i => if f = 1 then -1 else if f = 6 then b (3 * i) else if f = 0 ∧ i = 7 then w else 0
def TM (M : jM) (n : Nat) (t : jS) : Prop := ∃ c : Nat, c ≤ 12 ∧ iv M 468 26 = (c : Int) ∧ (∀ k, k < c → 0 ≤ iv M 484 (4 * k) ∧ iv M 484 (4 * k) < n ∧ 0 ≤ iv M 484 (4 * k + 1) ∧ iv M 484 (4 * k + 1) < n ∧ 0 ≤ iv M 484 (4 * k + 2) ∧ iv M 484 (4 * k + 2) ≤ 2 ∧ 1 ≤ iv M 484 (4 * k + 3) ∧ iv M 484 (4 * k + 3) ≤ 9 ∧ fE ((tlF (iv M 484) k (tl0 (iv M 483) (iv M 482 0))) 1) (iv M 484 (4 * k)).toNat ≠ -1) ∧
  (∀ j, j < 32 → t 1 j = tlF (iv M 484) c (tl0 (iv M 483) (iv M 482 0)) 1 j ∧ (t 1 j ≠ -1 → t 2 j = tlF (iv M 484) c (tl0 (iv M 483) (iv M 482 0)) 2 j ∧ t 3 j = tlF (iv M 484) c (tl0 (iv M 483) (iv M 482 0)) 3 j ∧ t 4 j = 0)) ∧
  (∀ p, p < n → t 6 p = iv M 483 (3 * p)) ∧ t 0 7 = iv M 482 0 ∧ t 0 9 = 0
def NowM (M : jM) (W : kW) : Prop := (0 < W.I.np → MRf (iv M 486) W.I.np W.s) ∧ MLg (iv M 486) W.s ∧ iv M 486 170 = W.s 0 9 ∧ PM M W.I.np W.K W.P
def PicM (M : jM) (W : kW) : Prop := iv M 468 46 = (if W.pc.isSome = true then 1 else 0) ∧ ∀ u, W.pc = some u → MRf (iv M 498) W.I.np u ∧ MLg (iv M 498) u
def TolM (M : jM) (W : kW) : Prop := 0 < W.I.np → TM M W.I.np W.t
def RidM (M : jM) (W : kW) : Prop := iv M 468 42 = (W.nn : Int) ∧ (∀ k, k < W.nn → iv M 492 k = W.nt k 0 ∧ iv M 493 k = W.nt k 1 ∧ iv M 494 k = W.nt k 2 ∧ iv M 495 k = W.nt k 3)
def TapM (M : jM) (W : kW) : Prop := iv M 468 2 = (W.tl : Int) ∧ ∀ i, i < W.tl → iv M 469 i = W.tb i
def LawM (M : jM) (W : kW) : Prop := iv M 468 13 = (W.lc : Int) ∧ iv M 468 30 = W.lh ∧ ∀ k, k < W.lc → MLawW M k ∧ ∀ l : Nat → Int, (∀ i, i < 6 → -1000000 ≤ l i ∧ l i ≤ 1000000) → mlF M k l = W.lw k l
def RefM (M : jM) (W : kW) : Prop := ∀ i, i < 5 → iv M 487 i = W.rf i
def CM (M : jM) (W : kW) : Prop := Shp M ∧ IM M W.I ∧ NowM M W ∧ PicM M W ∧ TolM M W ∧ RidM M W ∧ TapM M W ∧ LawM M W ∧ RefM M W ∧ iv M 468 31 = W.me
-- frames
/-- what the class's calls leave alone -/
def FX (M M' : jM) : Prop := Shp M' ∧ (∀ r, r ≤ 5 ∨ (468 ≤ r ∧ r < 500) → iv M' r = iv M r ∧ lg M' r = lg M r ∧ kd M' r = kd M r) ∧ mx M ≤ mx M' ∧ mx M' ≤ mx M + 8 ∧ ms M ≤ ms M' ∧ ms M' ≤ ms M + 2000
/-- what the model's calls leave alone -/
def FM (M M' : jM) : Prop := Fr (fun r => 468 ≤ r ∧ r < 499) M M'
theorem FX.of {P : Nat → Prop} {M M' : jM} (h : Fr P M M') (hS : Shp M) (hp : ∀ r, P r → 5 < r ∧ (r < 468 ∨ 500 ≤ r)) : FX M M' := by
  refine ⟨h.shp hS, fun r hr => ?_, by rw [h.emx]; omega, by rw [h.emx]; omega, by rw [h.ems]; omega, by rw [h.ems]; omega⟩
  have : ¬ P r := fun q => by have := hp r q; omega
  exact ⟨h.eiv this, h.elg this, by rw [h.ekd]⟩
theorem CM.fx {M M' : jM} {W : kW} (h : CM M W) (hf : FX M M') : CM M' W := by
  obtain ⟨f1, f2, _⟩ := hf
  have e : ∀ r, 468 ≤ r → r < 500 → iv M' r = iv M r := fun r h1 h2 => (f2 r (Or.inr ⟨h1, h2⟩)).1
  obtain ⟨_, h1, h2, h3, h4, h5, h6, h7, h8, h9⟩ := h
  refine ⟨f1, ?_, ?_, ?_, ?_, ?_, ?_, ?_, ?_, ?_⟩
  · obtain ⟨a1, a2, a3, a4, a5⟩ := h1
    unfold IM
    rw [e 468 (by omega) (by omega), e 483 (by omega) (by omega), e 482 (by omega) (by omega)]
    refine ⟨a1, a2, a3, a4, ?_⟩
    unfold LawIM MLawW mlF mSg mVl mRow at a5 ⊢
    rw [e 468 (by omega) (by omega), e 470 (by omega) (by omega), e 471 (by omega) (by omega), e 473 (by omega) (by omega), e 474 (by omega) (by omega), e 475 (by omega) (by omega), e 476 (by omega) (by omega)]
    exact a5
  · unfold NowM PM at h2 ⊢
    rw [e 468 (by omega) (by omega), e 486 (by omega) (by omega), e 488 (by omega) (by omega)]
    exact h2
  · unfold PicM at h3 ⊢
    rw [e 468 (by omega) (by omega), e 498 (by omega) (by omega)]
    exact h3
  · unfold TolM TM at h4 ⊢
    rw [e 468 (by omega) (by omega), e 484 (by omega) (by omega), e 483 (by omega) (by omega), e 482 (by omega) (by omega)]
    exact h4
  · unfold RidM at h5 ⊢
    rw [e 468 (by omega) (by omega), e 492 (by omega) (by omega), e 493 (by omega) (by omega), e 494 (by omega) (by omega), e 495 (by omega) (by omega)]
    exact h5
  · unfold TapM at h6 ⊢
    rw [e 468 (by omega) (by omega), e 469 (by omega) (by omega)]
    exact h6
  · unfold LawM MLawW mlF mSg mVl mRow at h7 ⊢
    rw [e 468 (by omega) (by omega), e 470 (by omega) (by omega), e 471 (by omega) (by omega), e 473 (by omega) (by omega), e 474 (by omega) (by omega), e 475 (by omega) (by omega), e 476 (by omega) (by omega)]
    exact h7
  · unfold RefM at h8 ⊢
    rw [e 487 (by omega) (by omega)]
    exact h8
  · rw [e 468 (by omega) (by omega)]
    exact h9
theorem RZ.fr {P : Nat → Prop} {M M' : jM} {I : jI} {t : jS} {nn : Nat} {nt : Nat → Nat → Int} (h : RZ M I t nn nt) (hf : Fr P M M') (hp : ∀ r, r = 387 ∨ (400 ≤ r ∧ r ≤ 403) → ¬ P r) : RZ M' I t nn nt := by
  unfold RZ
  rw [hf.eiv (hp 400 (by omega)), hf.elg (hp 401 (by omega)), hf.eiv (hp 402 (by omega)), hf.eiv (hp 387 (by omega)), hf.eiv (hp 403 (by omega))]
  exact h
theorem LawX.fr {P : Nat → Prop} {M M' : jM} {W : kW} (h : LawX M W) (hf : Fr P M M') (h6 : iv M' 6 = iv M 6) (hp : ∀ r, 500 ≤ r → P r → r = rv M 29 5 + 6 ∧ 500 ≤ rv M 29 5) (hok : OKW W) : LawX M' W := by
  obtain ⟨h1, h2, G, h3, h4, h5, h7⟩ := h
  unfold LawX
  rw [h6, hf.erv]
  refine ⟨h1, h2, G, fun k hk => ?_, h4, h5, h7⟩
  obtain ⟨a1, a2, a3, a4, a5⟩ := h3 k hk
  have q : ∀ x, x < 6 → ¬ P (G k + x) := by
    intro x hx hq
    obtain ⟨b1, b2⟩ := hp _ (by omega) hq
    have hlh : W.lh ≠ -1 := fun z => by have := h5 z; omega
    have c1 := h7 hlh
    have hl : 0 ≤ W.lh ∧ W.lh < W.lc := by
      rcases hok.2.2.2.2.2.2.2.2.2.2 with z | z
      · exact absurd z.1 hlh
      · exact ⟨z.1, z.2.1⟩
    rw [c1] at b1
    rcases Nat.lt_trichotomy k W.lh.toNat with z | z | z
    · have := h4 k W.lh.toNat z (by omega); omega
    · rw [← z] at b1; omega
    · have := h4 W.lh.toNat k z hk; omega
  obtain ⟨r1, r2⟩ := lawF_fr (g := G k) hf q
  exact ⟨a1, a2, hf.law a3, r2 a4, by rw [r1]; exact a5⟩
/-- cells of acts and of what is gone through apart -/
def Xa (M : jM) (r : Nat) : Prop := (33 ≤ r ∧ r ≤ 40) ∨ (49 ≤ r ∧ r ≤ 56) ∨ (65 ≤ r ∧ r ≤ 386) ∨ (405 ≤ r ∧ r ≤ 467) ∨ r = 28 ∨ r = 6 ∨ Wp M r
theorem CX.act {P : Nat → Prop} {M M' : jM} {W W' : kW} (h : CX M W) (hok : OKW W) (hf : Fr P M M') (hp : ∀ r, P r → Xa M r) (h6 : iv M' 6 = iv M 6) (hN : NowX M' W') (hR : RefX M' W') (hI : W'.I = W.I) (hT : W'.2.2.1 = W.2.2.1) (hPc : W'.pc = W.pc) (hNn : W'.2.2.2.2.1 = W.2.2.2.2.1) (hTp : W'.2.2.2.2.2.1 = W.2.2.2.2.2.1) (hRest : W'.2.2.2.2.2.2.2 = W.2.2.2.2.2.2.2) : CX M' W' := by
  obtain ⟨a0, a1, a2, a3, a4, a5, a6, a7, a8, a9, a10⟩ := h
  have q : ∀ r, ¬ Xa M r → ¬ P r := fun r hr z => hr (hp r z)
  have e : ∀ r, ¬ Xa M r → iv M' r = iv M r := fun r hr => hf.eiv (q r hr)
  have hh : W'.t = W.t := hT
  have hl0 : LawX M' W := a7.fr hf h6 (fun r hr hq => by have := hp r hq; unfold Xa Wp at this; omega) hok
  refine ⟨hf.shp a0, ?_, hN, ?_, ?_, ?_, ?_, ?_, hR, ?_, ?_⟩
  · rw [hI]; exact a1.xc hf (fun r hr => by have := hp r hr; unfold Xa Wp at this; unfold Xc Wp; omega)
  · unfold PicX
    rw [h6, hPc]
    exact ⟨a3.1, fun u hu => by
      obtain ⟨b1, b2⟩ := a3.2 u hu
      exact ⟨b1.fr hf (fun k hk _ => q _ (by unfold Xa Wp; omega)), b2.fr hf (q _ (by unfold Xa Wp; omega))⟩⟩
  · unfold TolX
    rw [hI, hh]
    exact fun z => (a4 z).fr hf (fun k hk _ => q _ (by unfold Xa Wp; omega))
  · obtain ⟨b1, b2, b3⟩ := a5
    unfold RidX
    have e1 : W'.nn = W.nn := congrArg (fun x => x.1) hNn
    have e2 : W'.nt = W.nt := congrArg (fun x => x.2) hNn
    rw [hI, hh, e1, e2, e 387 (by unfold Xa Wp; omega), e 388 (by unfold Xa Wp; omega), e 389 (by unfold Xa Wp; omega), e 390 (by unfold Xa Wp; omega), e 391 (by unfold Xa Wp; omega)]
    exact ⟨b1, b2, b3.imp id (fun z => ⟨z.1, z.2.fr hf (fun r hr => q _ (by unfold Xa Wp; omega))⟩)⟩
  · unfold TapX
    have e1 : W'.tl = W.tl := congrArg (fun x => x.1) hTp
    have e2 : W'.tb = W.tb := congrArg (fun x => x.2) hTp
    rw [e1, e2, e 7 (by unfold Xa Wp; omega), e 8 (by unfold Xa Wp; omega)]
    exact a6
  · unfold LawX at hl0 ⊢
    have e1 : W'.lc = W.lc := congrArg (fun x => x.2.1.1) hRest
    have e2 : W'.lh = W.lh := congrArg (fun x => x.2.1.2) hRest
    have e3 : W'.lw = W.lw := congrArg (fun x => x.2.2) hRest
    rw [e1, e2, e3]
    exact hl0
  · unfold RdrX LgtX
    rw [e 12 (by unfold Xa Wp; omega), e 13 (by unfold Xa Wp; omega), e 14 (by unfold Xa Wp; omega), e 43 (by unfold Xa Wp; omega), e 44 (by unfold Xa Wp; omega), e 45 (by unfold Xa Wp; omega), e 48 (by unfold Xa Wp; omega)]
    exact a9
  · rw [h6]
    have e1 : W'.me = W.me := congrArg (fun x => x.1) hRest
    rw [e1]
    exact a10
/-- nothing is other but what is gone through apart -/
def Xo (M : jM) (r : Nat) : Prop := r = 38 ∨ (49 ≤ r ∧ r ≤ 56) ∨ (405 ≤ r ∧ r ≤ 467) ∨ Wp M r
theorem NowX.fr {P : Nat → Prop} {M M' : jM} {W : kW} (h : NowX M W) (hf : Fr P M M') (hp : ∀ r, P r → Xo M r ∨ r = 28) : NowX M' W := by
  have q : ∀ r, ¬ (Xo M r ∨ r = 28) → ¬ P r := fun r hr z => hr (hp r z)
  obtain ⟨h1, h2, h3⟩ := h
  refine ⟨fun z => ?_, by rw [hf.eiv (q 33 (by unfold Xo Wp; omega))]; exact h2, h3.fr hf (fun r _ _ => q r (by unfold Xo Wp; omega))⟩
  obtain ⟨b1, b2⟩ := h1 z
  exact ⟨b1.fr hf (fun k hk _ => q _ (by unfold Xo Wp; omega)), b2.fr hf (q _ (by unfold Xo Wp; omega))⟩
theorem CX.obs {P : Nat → Prop} {M M' : jM} {W : kW} (h : CX M W) (hok : OKW W) (hf : Fr P M M') (hp : ∀ r, P r → Xo M r) : CX M' W := by
  have q : ∀ r, ¬ Xo M r → ¬ P r := fun r hr z => hr (hp r z)
  refine h.act hok hf (fun r hr => by have := hp r hr; unfold Xo Wp at this; unfold Xa Wp; omega) (hf.eiv (q 6 (by unfold Xo Wp; omega))) (h.2.2.1.fr hf (fun r hr => Or.inl (hp r hr))) ?_ rfl rfl rfl rfl rfl rfl
  have := h.2.2.2.2.2.2.2.2.1
  unfold RefX at this ⊢
  rw [hf.eiv (q 28 (by unfold Xo Wp; omega))]
  exact this
theorem FX.obs {P : Nat → Prop} {M M' : jM} (hf : Fr P M M') (hS : Shp M) (hp : ∀ r, P r → Xa M r) : FX M M' :=
  FX.of hf hS (fun r hr => by have := hp r hr; unfold Xa Wp at this; omega)
