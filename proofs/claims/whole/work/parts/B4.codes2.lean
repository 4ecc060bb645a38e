/-! LAWS: what their code says hangs on the code alone; faults -/
theorem evC_cg {sg vl sg' vl' L : Nat → Int} : ∀ (n i : Nat) (st : List Int), (∀ j, i ≤ j → j < i + n → sg' j = sg j ∧ vl' j = vl j) → evC sg' vl' L n i st = evC sg vl L n i st
  | 0, _, _, _ => rfl
  | n + 1, i, st, h => by
    simp only [evC]
    obtain ⟨h1, h2⟩ := h i (Nat.le_refl _) (by omega)
    rw [h1, h2]
    exact evC_cg n (i + 1) _ (fun j j1 j2 => h j (by omega) (by omega))
theorem scC_cg {sg vl sg' vl' : Nat → Int} : ∀ (n i : Nat) (ty : List Bool), (∀ j, i ≤ j → j < i + n → sg' j = sg j ∧ vl' j = vl j) → scC sg' vl' n i ty = scC sg vl n i ty
  | 0, _, _, _ => rfl
  | n + 1, i, ty, h => by
    simp only [scC]
    obtain ⟨h1, h2⟩ := h i (Nat.le_refl _) (by omega)
    rw [h1, h2]
    cases tyC (sg i) (vl i) ty with
    | none => rfl
    | some t => exact scC_cg n (i + 1) _ (fun j j1 j2 => h j (by omega) (by omega))
def CodeOK (B : Nat) (sg vl cf sf se : Nat → Int) (n : Nat) : Prop := ∀ k, k < n → ∃ f s e : Nat, cf k = f ∧ sf k = s ∧ se k = e ∧ f ≤ s ∧ s ≤ e ∧ e ≤ B ∧ (f = s ∨ scC sg vl (s - f) f [] = some [true]) ∧ scC sg vl (e - s) s [] = some [false]
theorem wC_cg {B : Nat} {sg vl cf sf se sg' vl' cf' sf' se' l : Nat → Int} (ha : ∀ i, i < B → sg' i = sg i ∧ vl' i = vl i) : ∀ (n k : Nat), (∀ j, k ≤ j → j < k + n → (∃ f s e : Nat, cf j = f ∧ sf j = s ∧ se j = e ∧ f ≤ s ∧ s ≤ e ∧ e ≤ B) ∧ cf' j = cf j ∧ sf' j = sf j ∧ se' j = se j) → wC sg' vl' cf' sf' se' l n k = wC sg vl cf sf se l n k
  | 0, _, _ => rfl
  | n + 1, k, h => by
    obtain ⟨⟨f, s, e, q1, q2, q3, q4, q5, q6⟩, e1, e2, e3⟩ := h k (Nat.le_refl _) (by omega)
    simp only [wC]
    rw [e1, e2, e3, q1, q2, q3, show ((s : Int) - f).toNat = s - f by omega, show ((e : Int) - s).toNat = e - s by omega, Int.toNat_natCast, Int.toNat_natCast, evC_cg (sg := sg) (vl := vl) (s - f) f [] (fun j j1 j2 => ha j (by omega)), evC_cg (sg := sg) (vl := vl) (e - s) s [] (fun j j1 j2 => ha j (by omega)), wC_cg ha n (k + 1) (fun j j1 j2 => h j (by omega) (by omega))]
theorem code_cg {B n : Nat} {sg vl cf sf se sg' vl' cf' sf' se' : Nat → Int} (h : CodeOK B sg vl cf sf se n) (ha : ∀ i, i < B → sg' i = sg i ∧ vl' i = vl i) (hc : ∀ k, k < n → cf' k = cf k ∧ sf' k = sf k ∧ se' k = se k) : CodeOK B sg' vl' cf' sf' se' n ∧ ∀ l, wC sg' vl' cf' sf' se' l n 0 = wC sg vl cf sf se l n 0 := by
  refine ⟨fun k hk => ?_, fun l => ?_⟩
  · obtain ⟨f, s, e, q1, q2, q3, q4, q5, q6, q7, q8⟩ := h k hk
    obtain ⟨e1, e2, e3⟩ := hc k hk
    refine ⟨f, s, e, e1.trans q1, e2.trans q2, e3.trans q3, q4, q5, q6, q7.imp id (fun z => ?_), ?_⟩
    · rw [scC_cg (sg := sg) (vl := vl) (s - f) f [] (fun j j1 j2 => ha j (by omega))]; exact z
    · rw [scC_cg (sg := sg) (vl := vl) (e - s) s [] (fun j j1 j2 => ha j (by omega))]; exact q8
  · refine wC_cg ha n 0 (fun j j1 j2 => ?_)
    obtain ⟨f, s, e, q1, q2, q3, q4, q5, q6, q7, q8⟩ := h j (by omega)
    exact ⟨⟨f, s, e, q1, q2, q3, q4, q5, q6⟩, hc j (by omega)⟩
theorem RowC.get {c f e : Nat → Int} : ∀ {l : List (Nat × Nat × Nat)} {i : Nat}, RowC c f e i l → ∀ k (hk : k < l.length), c (i + k) = ((l[k].1 : Nat) : Int) ∧ f (i + k) = ((l[k].2.1 : Nat) : Int) ∧ e (i + k) = ((l[k].2.2 : Nat) : Int)
  | x :: r, i, h, 0, _ => ⟨h.1, h.2.1, h.2.2.1⟩
  | x :: r, i, h, k + 1, hk => by
    have := RowC.get h.2.2.2 k (by simpa using hk)
    rw [show i + (k + 1) = i + 1 + k by omega]
    simpa using this
theorem code_ok {L : jL} {sg vl cf sf se : Nat → Int} (h : okL L) (hr : RowL sg vl 0 L.1) (hc : RowC cf sf se 0 L.2) : CodeOK L.1.length sg vl cf sf se L.2.length := by
  intro k hk
  obtain ⟨c1, c2, c3⟩ := hc.get k hk
  rw [Nat.zero_add] at c1 c2 c3
  obtain ⟨l0, lc, ls, l1, e1, e2, e3, e4⟩ := h L.2[k] (List.getElem_mem hk)
  rw [e2] at c1 c2 c3
  have r1 := hr
  rw [e1] at r1
  have r2 := r1.l.2.l
  have r3 := r2.2.l.1
  rw [Nat.zero_add] at r2 r3
  have len : L.1.length = l0.length + (lc.length + (ls.length + l1.length)) := by
    rw [e1, List.length_append, List.length_append, List.length_append]
  refine ⟨l0.length, l0.length + lc.length, l0.length + (lc.length + ls.length), c1, c2, c3, by omega, by omega, by omega, ?_, ?_⟩
  · rcases e3 with z | z
    · left; rw [z]; rfl
    · right
      rw [show l0.length + lc.length - l0.length = lc.length by omega, scC_L r2.1]
      exact z
  · rw [show l0.length + (lc.length + ls.length) - (l0.length + lc.length) = ls.length by omega, scC_L r3]
    exact e4
/-- what a law that is read says -/
def lgS (L : jL) : Nat → Int := fun i => (L.1.getD i (0, 0)).1
def lgV (L : jL) : Nat → Int := fun i => (L.1.getD i (0, 0)).2
def lgC (L : jL) : Nat → Int := fun i => ((L.2.getD i (0, 0, 0)).1 : Nat)
def lgF (L : jL) : Nat → Int := fun i => ((L.2.getD i (0, 0, 0)).2.1 : Nat)
def lgE (L : jL) : Nat → Int := fun i => ((L.2.getD i (0, 0, 0)).2.2 : Nat)
def lwG (L : jL) : (Nat → Int) → Int := fun l => wC (lgS L) (lgV L) (lgC L) (lgF L) (lgE L) l L.2.length 0
theorem RowL_at {sg vl : Nat → Int} : ∀ {l : List (Int × Int)} {i : Nat}, RowL sg vl i l → ∀ k, k < l.length → sg (i + k) = (l.getD k (0, 0)).1 ∧ vl (i + k) = (l.getD k (0, 0)).2
  | x :: r, i, h, 0, _ => ⟨h.1, h.2.1⟩
  | x :: r, i, h, k + 1, hk => by
    have := RowL_at h.2.2 k (by simpa using hk)
    rw [show i + (k + 1) = i + 1 + k by omega]
    simpa using this
theorem RowC_at {c f e : Nat → Int} : ∀ {l : List (Nat × Nat × Nat)} {i : Nat}, RowC c f e i l → ∀ k, k < l.length → c (i + k) = (((l.getD k (0, 0, 0)).1 : Nat) : Int) ∧ f (i + k) = (((l.getD k (0, 0, 0)).2.1 : Nat) : Int) ∧ e (i + k) = (((l.getD k (0, 0, 0)).2.2 : Nat) : Int)
  | x :: r, i, h, 0, _ => ⟨h.1, h.2.1, h.2.2.1⟩
  | x :: r, i, h, k + 1, hk => by
    have := RowC_at h.2.2.2 k (by simpa using hk)
    rw [show i + (k + 1) = i + 1 + k by omega]
    simpa using this
/-- all that lay a law out as it is read say the same -/
theorem code_G {L : jL} {sg vl cf sf se : Nat → Int} (h : okL L) (hr : RowL sg vl 0 L.1) (hc : RowC cf sf se 0 L.2) (l : Nat → Int) : wC sg vl cf sf se l L.2.length 0 = lwG L l := by
  refine ((code_cg (sg' := lgS L) (vl' := lgV L) (cf' := lgC L) (sf' := lgF L) (se' := lgE L) (code_ok h hr hc) (fun i hi => ?_) (fun k hk => ?_)).2 l).symm
  · have := RowL_at hr i hi
    rw [Nat.zero_add] at this
    exact ⟨this.1.symm, this.2.symm⟩
  · have := RowC_at hc k hk
    rw [Nat.zero_add] at this
    exact ⟨this.1.symm, this.2.1.symm, this.2.2.symm⟩
noncomputable def aFault (W : kW) (st : Int) : Int := if st = 0 then (match isT (W.tb, W.tl) with | .inl w => (w : Int) | .inr _ => -1) else if st = 1 then (match lwT (W.tb, W.tl) with | .inl w => (w : Int) | .inr _ => -1) else -2
section Faults
variable {d t : Nat} {M M' : jM} {Q : Option jV → jM → Prop} {W : kW} {st : Int}
theorem CX.kt (h : CX M W) (hok : OKW W) : KT M (W.tb, W.tl) := ⟨h.2.2.2.2.2.2.1.1, hok.2.2.2.2.2.2.2.1.1, h.2.2.2.2.2.2.1.2⟩
theorem CM.mt (h : CM M W) (hok : OKW W) : MT M (W.tb, W.tl) := ⟨h.2.2.2.2.2.2.1.1, hok.2.2.2.2.2.2.2.1.1, h.2.2.2.2.2.2.1.2⟩
theorem OKW.okt (hok : OKW W) : OKT (W.tb, W.tl) := hok.2.2.2.2.2.2.2.1
theorem CX.rx (h : CX M W) : RdrX M := h.2.2.2.2.2.2.2.2.2.1.1
/-- after reading -/
theorem CX.read (h : CX M W) (hok : OKW W) {P : Nat → Prop} (hf : Fr P M M') (hp : ∀ r, P r → r = 7 ∨ (9 ≤ r ∧ r ≤ 25)) (h7 : iv M' 7 1 = iv M 7 1) (hR : RdrX M') : CX M' W ∧ FX M M' := by
  obtain ⟨t1, t2⟩ := h.2.2.2.2.2.2.1
  exact h.tape (u := (W.tl, W.tb)) hok hf (fun r hr => by have := hp r hr; unfold Rr; omega) ⟨h7.trans t1, fun i hi => by rw [hf.eiv (fun z => by have := hp _ z; omega)]; exact t2 i hi⟩ hR
theorem CX.ki (h : CX M W) (hok : OKW W) (k : KI M M') (hR : RdrX M') : CX M' W ∧ FX M M' := h.read hok k.1 (by intro r hr; omega) (k.2 1 (by decide) (by decide)) hR
theorem CX.kl (h : CX M W) (hok : OKW W) (k : KL M M') : CX M' W ∧ FX M M' := h.read hok k.1 (by intro r hr; omega) (k.2 1 (by decide) (by decide)) (h.rx.cg (k.1.eiv (by decide)) (k.1.eiv (by decide)) (k.1.eiv (by decide)))
theorem CM.ni (h : CM M W) (k : NI M M') : CM M' W ∧ FM M M' := by
  obtain ⟨t1, t2⟩ := h.2.2.2.2.2.2.1
  refine h.tape (u := (W.tl, W.tb)) k.1 (fun r hr => by unfold Rm; omega) (fun j hj => k.2 j (fun z => hj (by unfold Rj; omega)) (fun z => hj (by unfold Rj; omega)) (fun z => hj (by unfold Rj; omega)) (fun z => hj (by unfold Rj; omega))) ⟨by rw [k.2 2 (by decide) (by decide) (by decide) (by decide)]; exact t1, fun i hi => by rw [k.1.eiv (by omega)]; exact t2 i hi⟩
theorem MLawW.ok {k : Nat} (h : MLawW M k) : CodeOK 240 (mSg M k) (mVl M k) (mRow M 474 k) (mRow M 475 k) (mRow M 476 k) (iv M 473 k).toNat := by
  intro j hj
  obtain ⟨f, s, e, q1, q2, q3, q4, q5, q6, q7, q8, q9⟩ := h.2.2 j (by have := h.1; omega)
  exact ⟨f, s, e, q1, q2, q3, q4, q5, q6, q7, q8⟩
theorem MG.law {k : Nat} (hf : MG t M M') (hk : k ≠ t) (h : MLawW M k) : MLawW M' k ∧ mlF M' k = mlF M k := by
  have h1 := h.1
  have h2 := h.2.1
  have e473 : iv M' 473 k = iv M 473 k := (hf.2.2.1 k hk).2
  have r : ∀ i, i < 240 → iv M' 470 (520 * k + i) = iv M 470 (520 * k + i) ∧ iv M' 471 (520 * k + i) = iv M 471 (520 * k + i) := fun i hi => hf.2.2.2.1 _ (by omega)
  have c := code_cg (sg' := mSg M' k) (vl' := mVl M' k) (cf' := mRow M' 474 k) (sf' := mRow M' 475 k) (se' := mRow M' 476 k) h.ok (fun i hi => by unfold mSg mVl; rw [(r i hi).1, (r i hi).2]; exact ⟨rfl, rfl⟩) (fun j hj => hf.2.2.2.2 _ (by omega))
  refine ⟨⟨by rw [e473]; exact h.1, by rw [e473]; exact h.2.1, fun j hj => ?_⟩, ?_⟩
  · rw [e473] at hj
    obtain ⟨f, s, e, q1, q2, q3, q4, q5, q6, q7, q8⟩ := c.1 j (by omega)
    obtain ⟨f', s', e', p1, p2, p3, p4, p5, p6, p7, p8, p9⟩ := h.2.2 j hj
    have ee : e = e' := by
      have : mRow M' 476 k j = mRow M 476 k j := (hf.2.2.2.2 _ (by omega)).2.2
      rw [this, p3] at q3
      omega
    refine ⟨f, s, e, q1, q2, q3, q4, q5, q6, q7, q8, fun i hi => ?_⟩
    rw [(r i (by omega)).1]
    exact p9 i (by omega)
  · funext l
    unfold mlF
    rw [e473]
    exact c.2 l
theorem CM.mg (h : CM M W) (hok : OKW W) (hf : MG t M M') (ht : W.lc ≤ t) : CM M' W ∧ FM M M' := by
  have hfm : FM M M' := hf.1.mono (fun r hr => by omega)
  obtain ⟨a0, a1, a2, a3, a4, a5, a6, a7, a8, a9⟩ := h
  have e : ∀ r, ¬ (r = 468 ∨ (470 ≤ r ∧ r ≤ 476)) → iv M' r = iv M r := fun r hr => hf.1.eiv hr
  have hj : ∀ j, j ≠ 3 → j ≠ 4 → j ≠ 5 → j ≠ 14 → iv M' 468 j = iv M 468 j := hf.2.1
  have j30 : iv M' 468 30 = iv M 468 30 := hj 30 (by decide) (by decide) (by decide) (by decide)
  refine ⟨⟨hf.1.shp a0, ?_, ?_, ?_, ?_, ?_, ?_, ?_, ?_, ?_⟩, hfm⟩
  · obtain ⟨i1, i2, i3, i4, i5⟩ := a1
    refine ⟨by rw [hj 25 (by decide) (by decide) (by decide) (by decide)]; exact i1, fun p hp => by rw [e 483 (by omega)]; exact i2 p hp, by rw [e 482 (by omega)]; exact i3, by rw [e 482 (by omega)]; exact i4, ?_⟩
    show LawIM M' W.I.lw
    rcases hok.2.2.2.2.2.2.2.2.2.2 with z | z
    · rw [z.2] at i5 ⊢
      unfold LawIM at i5 ⊢
      rw [j30]
      exact i5
    · rw [z.2.2] at i5 ⊢
      unfold LawIM at i5 ⊢
      rw [j30]
      obtain ⟨k, k1, k2, k3, k4⟩ := i5
      have : k ≠ t := by
        have := a7.2.1
        omega
      have g := hf.law this k3
      exact ⟨k, k1, k2, g.1, by rw [g.2]; exact k4⟩
  · unfold NowM PM at a2 ⊢
    rw [hj 33 (by decide) (by decide) (by decide) (by decide), e 486 (by omega), e 488 (by omega)]
    exact a2
  · unfold PicM at a3 ⊢
    rw [hj 46 (by decide) (by decide) (by decide) (by decide), e 498 (by omega)]
    exact a3
  · unfold TolM TM at a4 ⊢
    rw [hj 26 (by decide) (by decide) (by decide) (by decide), e 484 (by omega), e 483 (by omega), e 482 (by omega)]
    exact a4
  · unfold RidM at a5 ⊢
    rw [hj 42 (by decide) (by decide) (by decide) (by decide), e 492 (by omega), e 493 (by omega), e 494 (by omega), e 495 (by omega)]
    exact a5
  · unfold TapM at a6 ⊢
    rw [hj 2 (by decide) (by decide) (by decide) (by decide), e 469 (by omega)]
    exact a6
  · obtain ⟨l1, l2, l3⟩ := a7
    refine ⟨by rw [hj 13 (by decide) (by decide) (by decide) (by decide)]; exact l1, by rw [j30]; exact l2, fun k hk => ?_⟩
    have g := hf.law (show k ≠ t by omega) (l3 k hk).1
    exact ⟨g.1, by rw [g.2]; exact (l3 k hk).2⟩
  · unfold RefM at a8 ⊢
    rw [e 487 (by omega)]
    exact a8
  · rw [hj 31 (by decide) (by decide) (by decide) (by decide)]
    exact a9
theorem X_fault (hd : 604 ≤ d) (hX : CX M W) (hok : OKW W) (hB : ST M) (h : ∀ M', FX M M' → CX M' W → Q (some (vI (aFault W st))) M') : Call d mX10_fault [vR 6, vI st] M Q := by
  obtain ⟨e, rfl⟩ := dd (d := d) (by omega)
  have hS := hX.shp
  unfold aFault at h
  refine vx_fault (by omega) hS ⟨fun z => ⟨fun z2 => ?_, fun z2 => ?_⟩, fun z => ?_⟩
  · rw [if_neg z, if_neg z2] at h
    exact h M (FX.refl hS) hX
  · rw [if_neg z, if_pos (Classical.not_not.mp z2)] at h
    refine c_readLaw (by omega) hS (hX.kt hok) (fun q L M' hL g => ?_) (fun w M' hL k e3 => ?_)
    · have g2 := hX.kl hok g.1
      rw [hL] at h
      refine ⟨_, rfl, g2.1.shp, ?_⟩
      rw [g.2.2.1]
      exact h M' g2.2 g2.1
    · have g2 := hX.kl hok k
      rw [hL] at h
      refine ⟨_, rfl, g2.1.shp, ?_⟩
      rw [e3]
      exact h M' g2.2 g2.1
  · rw [if_pos (Classical.not_not.mp z)] at h
    refine c_readIsl (by omega) hS (hX.kt hok) hB hX.rx (fun Y M' hY k e3 _ hR => ?_) (fun w M' hY k => ?_)
    · have g2 := hX.ki hok k hR
      rw [hY] at h
      refine ⟨_, rfl, g2.1.shp, ?_⟩
      rw [e3]
      exact h M' g2.2 g2.1
    · have g2 := hX.ki hok k.1 k.2.2
      rw [hY] at h
      refine ⟨_, rfl, g2.1.shp, ?_⟩
      rw [k.2.1]
      exact h M' g2.2 g2.1
theorem M_fault (hd : 724 ≤ d) (hM : CM M W) (hok : OKW W) (h : ∀ M', FM M M' → CM M' W → Q (some (vI (aFault W st))) M') : Call d mX11_fault [vR 468, vI st] M Q := by
  obtain ⟨e, rfl⟩ := dd (d := d) (by omega)
  have hS := hM.shp
  have hlc := hok.2.2.2.2.2.2.2.2.2.1
  unfold aFault at h
  refine vn_fault (by omega) hS ⟨fun z => ⟨fun z2 => ?_, fun z2 => ?_⟩, fun z => ?_⟩
  · rw [if_neg z, if_neg z2] at h
    exact h M Fr.refl hM
  · rw [if_neg z, if_pos (Classical.not_not.mp z2)] at h
    refine m_readLaw (t := 4) (by omega) hS (hM.mt hok) (by decide) (fun q L M' hL g => ?_) (fun w M' hL g => ?_)
    · have g2 := hM.mg hok g.1 hlc
      rw [hL] at h
      exact ⟨_, rfl, g2.1.shp, h M' g2.2 g2.1⟩
    · have g2 := hM.mg hok g hlc
      rw [hL] at h
      exact ⟨_, rfl, g2.1.shp, h M' g2.2 g2.1⟩
  · rw [if_pos (Classical.not_not.mp z)] at h
    refine m_readIsl (by omega) hS (hM.mt hok) hok.okt (fun Y M' hY k _ _ => ?_) (fun w M' hY k _ => ?_)
    · have g2 := hM.ni k
      rw [hY] at h
      exact ⟨_, rfl, g2.1.shp, h M' g2.2 g2.1⟩
    · have g2 := hM.ni k
      rw [hY] at h
      exact ⟨_, rfl, g2.1.shp, h M' g2.2 g2.1⟩
end Faults
