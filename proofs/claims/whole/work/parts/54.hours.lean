/-! draws, HOURS, YEARS: of the class and of the model, over one picture -/
theorem fG_m {mi k : Int} (h1 : 0 ≤ mi ∧ mi ≤ 2) (h2 : 0 ≤ k ∧ k ≤ 2) : fGm mi k = fG mi k := by
  unfold fGm fG
  have a1 : mi = 0 ∨ mi = 1 ∨ mi = 2 := by omega
  have a2 : k = 0 ∨ k = 1 ∨ k = 2 := by omega
  rcases a1 with rfl | rfl | rfl <;> rcases a2 with rfl | rfl | rfl <;> decide
theorem fG_01 {mi k : Int} : fG mi k = 0 ∨ fG mi k = 1 := by unfold fG; split <;> simp
section LayWS
variable {n : Nat} {s : jS} {j : Nat} {w k t : Int}
theorem WS.set7 (h : WS n s) (hw : 0 ≤ w ∧ w ≤ 9) : WS n (pSet s 0 7 w) := by
  obtain ⟨w1, w2, w3, w4, w5, w6⟩ := h
  have e : ∀ f i, f ≠ 0 ∨ i ≠ 7 → pSet s 0 7 w f i = s f i := fun f i hfi => if_neg (by omega)
  have e7 : pSet s 0 7 w 0 7 = w := if_pos ⟨rfl, rfl⟩
  refine ⟨fun i hi => ?_, fun i hi hn => ?_, fun i hi => ?_, by rw [e7]; exact hw, ?_, ?_⟩
  · rw [e 1 i (by omega), e 2 i (by omega), e 3 i (by omega), e 4 i (by omega)]; exact w1 i hi
  · rw [e 1 i (by omega)]; exact w2 i hi hn
  · rw [e 6 i (by omega)]; exact w3 i hi
  · rw [e 0 8 (by omega)]; exact w5
  · rw [e 0 9 (by omega)]; exact w6
theorem pLay_o {f i : Nat} (h : i ≠ j ∨ f = 0 ∨ 5 ≤ f) : pLay s j w k t f i = s f i := by
  unfold pLay
  rw [if_neg (by omega), if_neg (by omega), if_neg (by omega), if_neg (by omega)]
theorem pLay_1 : pLay s j w k t 1 j = w := by unfold pLay; simp
theorem pLay_2 : pLay s j w k t 2 j = k := by unfold pLay; simp
theorem pLay_3 : pLay s j w k t 3 j = t := by unfold pLay; simp
theorem pLay_4 : pLay s j w k t 4 j = 0 := by unfold pLay; simp
theorem WS.lay (h : WS n s) (hj : j < 4 * n) (hw : -1 ≤ w ∧ w < n) (hk : 0 ≤ k ∧ k ≤ 2) (ht : 0 ≤ t ∧ t ≤ 9) : WS n (pLay s j w k t) := by
  obtain ⟨w1, w2, w3, w4, w5, w6⟩ := h
  refine ⟨fun i hi => ?_, fun i hi hn => ?_, fun i hi => ?_, ?_, ?_, ?_⟩
  · by_cases c : i = j
    · rw [c, pLay_1, pLay_2, pLay_3, pLay_4]; omega
    · rw [pLay_o (Or.inl c), pLay_o (Or.inl c), pLay_o (Or.inl c), pLay_o (Or.inl c)]; exact w1 i hi
  · rw [pLay_o (Or.inl (by omega))]; exact w2 i hi hn
  · rw [pLay_o (Or.inr (Or.inr (by omega)))]; exact w3 i hi
  · rw [pLay_o (Or.inr (Or.inl rfl))]; exact w4
  · rw [pLay_o (Or.inr (Or.inl rfl))]; exact w5
  · rw [pLay_o (Or.inr (Or.inl rfl))]; exact w6
end LayWS
/-- a good state -/
def GS (n : Nat) (s : jS) : Prop := WS n s ∧ (∀ p, p < n → 1 ≤ s 6 p) ∧ s 0 9 ≤ 9999 ∧ ∀ i, i < 60 → 0 ≤ s 7 i ∧ s 7 i < 2147483648
/-- what is ahead of an hour of YEARS -/
def drwP (I : jI) (s1 : jS) (x2 : Int) : jS × Int :=
  let p := dvD (nxD x2) I.np
  let o := dvD (nxD (nxD x2)) I.np
  let k := dvD (nxD (nxD (nxD x2))) 3
  let t := dvD (nxD (nxD (nxD (nxD x2)))) 9 + 1
  (if p ≠ o ∧ fG (I.mi p.toNat) k = 1 ∧ fE (s1 1) p.toNat ≠ -1 then pLay s1 (4 * p.toNat + (fE (s1 1) p.toNat).toNat) o k t else s1, nxD (nxD (nxD (nxD x2))))
def drw (I : jI) (me : Int) (s : jS) (x : Int) : jS × Int :=
  if dvD (nxD (nxD x)) 10 < me then drwP I (pSet s 0 7 (dvD (nxD x) 10)) (nxD (nxD x)) else (pSet s 0 7 (dvD (nxD x) 10), nxD (nxD x))
theorem drwP_ws {I : jI} {s : jS} {x : Int} (hI : WI I) (hnp : 2 ≤ I.np) (h : WS I.np s) : WS I.np (drwP I s x).1 := by
  have hn8 := hI.1
  unfold drwP
  dsimp only
  split
  · have h1 := dvD_in (x := nxD x) (n := I.np) ⟨by omega, by omega⟩
    have h2 := dvD_in (x := nxD (nxD x)) (n := I.np) ⟨by omega, by omega⟩
    have h3 := dvD_in (x := nxD (nxD (nxD x))) (n := 3) ⟨by omega, by omega⟩
    have h4 := dvD_in (x := nxD (nxD (nxD (nxD x)))) (n := 9) ⟨by omega, by omega⟩
    have h5 := fE_in (s 1) (dvD (nxD x) I.np).toNat
    exact h.lay (by omega) (by omega) (by omega) (by omega)
  · exact h
theorem drw_ws {I : jI} {me : Int} {s : jS} {x : Int} (hI : WI I) (hnp : 2 ≤ I.np) (h : WS I.np s) : WS I.np (drw I me s x).1 := by
  have h1 := dvD_in (x := nxD x) (n := 10) ⟨by omega, by omega⟩
  have h2 : WS I.np (pSet s 0 7 (dvD (nxD x) 10)) := h.set7 (by omega)
  unfold drw
  split
  · exact drwP_ws hI hnp h2
  · exact h2
theorem drwP_o {I : jI} {s : jS} {x : Int} {f i : Nat} (h : f = 0 ∨ 5 ≤ f) : (drwP I s x).1 f i = s f i := by
  unfold drwP
  dsimp only
  split
  · exact pLay_o (Or.inr h)
  · rfl
theorem drw_o {I : jI} {me : Int} {s : jS} {x : Int} {f i : Nat} (h : (f = 0 ∧ i ≠ 7) ∨ 5 ≤ f) : (drw I me s x).1 f i = s f i := by
  have e : pSet s 0 7 (dvD (nxD x) 10) f i = s f i := if_neg (by omega)
  unfold drw
  split
  · rw [drwP_o (by omega), e]
  · exact e
theorem GS.hr {I : jI} {s : jS} (hI : WI I) (h : GS I.np s) (h9 : s 0 9 < 9999) : GS I.np (pH I s) := by
  obtain ⟨h1, h2, h3, h4⟩ := h
  refine ⟨h1.pH (by omega), fun p hp => ?_, by rw [pH_09]; omega, fun i hi => ?_⟩
  · have : pH I s 6 p = s 6 p := pL_6 (I := I)
    rw [this]
    exact h2 p hp
  · have hb := pkd_in (u := pL I s) hI
    show 0 ≤ (if 7 = 7 ∧ (i : Int) = pL I s 0 9 % 60 then pkd I (pL I s) else pL I s 7 i) ∧ (if 7 = 7 ∧ (i : Int) = pL I s 0 9 % 60 then pkd I (pL I s) else pL I s 7 i) < 2147483648
    by_cases c : 7 = 7 ∧ (i : Int) = pL I s 0 9 % 60
    · rw [if_pos c]
      unfold pkd
      omega
    · rw [if_neg c, pL_7]
      exact h4 i hi
theorem GS.dr {I : jI} {me : Int} {s : jS} {x : Int} (hI : WI I) (hnp : 2 ≤ I.np) (h : GS I.np s) : GS I.np (drw I me s x).1 := by
  obtain ⟨h1, h2, h3, h4⟩ := h
  refine ⟨drw_ws hI hnp h1, fun p hp => ?_, ?_, fun i hi => ?_⟩
  · rw [drw_o (Or.inr (by omega))]; exact h2 p hp
  · rw [drw_o (Or.inl ⟨rfl, by decide⟩)]; exact h3
  · rw [drw_o (Or.inr (by omega))]; exact h4 i hi
section Draw
variable {d : Nat} {M : jM} {Q : Option jV → jM → Prop} {I : jI} {s : jS} {n : Nat}
theorem x_drawS {n : Int} (hd : 5 ≤ d) (hS : Shp M) (hn : 1 ≤ n) (h : ∀ M', Fr (fun r => r = 6) M M' → iv M' = iv M → lg M' 6 8 = nxD (lg M 6 8) → Q (some (vI (dvD (nxD (lg M 6 8)) n))) M') : Call d mX10_draw [vR 6, vI n] M Q :=
  x_draw hd hS hn (h _ (fr_sl rfl) rfl lg_sle)
theorem m_drawS {n : Int} (hd : 7 ≤ d) (hS : Shp M) (hn : 1 ≤ n) (h : ∀ M', F4 (fun _ => False) (fun j => j = 34) M M' → iv M' = iv M → lg M' 468 34 = nxD (lg M 468 34) → Q (some (vI (dvD (nxD (lg M 468 34)) n))) M') : Call d mX11_draw [vR 468, vI n] M Q := by
  obtain ⟨e, rfl⟩ := dd (d := d) (by omega)
  refine vn_draw (by omega) hS (fun v1 hv1 N hN sN => ⟨by omega, ?_⟩)
  have e1 : lg N 468 34 = nxD (lg M 468 34) := by rw [hN, hv1]; exact lg_sle
  rw [e1]
  refine h N ⟨by rw [hN]; exact fr_sl (Or.inr rfl), fun j hj => ⟨by rw [hN]; rfl, ?_⟩⟩ (by rw [hN]; rfl) e1
  rw [hN]
  show (if 468 = 468 ∧ j = 34 then v1 else lg M 468 j) = _
  exact if_neg (fun q => hj q.2)
theorem x_drawHour {me : Int} (hd : 7 ≤ d) (hS : Shp M) (hA : IA M I) (hI : WI I) (hnp : 2 ≤ I.np) (hs : SB M 33 s) (hme : iv M 6 6 = me)
    (h : ∀ M', Fr (fun r => (33 ≤ r ∧ r ≤ 39) ∨ r = 6) M M' → iv M' 6 = iv M 6 → SB M' 33 (drw I me s (lg M 6 8)).1 → lg M' 6 8 = (drw I me s (lg M 6 8)).2 → Q none M') : Call d mX10_drawWhatIsAhead [vR 6] M Q := by
  obtain ⟨e, rfl⟩ := dd (d := d) (by omega)
  have hn8 := hI.1
  generalize hx : lg M 6 8 = x at *
  refine vx_drawWhatIsAhead (by omega) hS (x_drawS (by omega) hS (by omega) (fun M1 f1 i1 l1 => ⟨_, rfl, f1.shp hS, ?_⟩))
  rw [hx] at l1 ⊢
  have s1 := f1.shp hS
  have b1 := dvD_in (x := nxD x) (n := 10) ⟨by omega, by omega⟩
  generalize hs1 : pSet s 0 7 (dvD (nxD x) 10) = u at *
  have su : SB (si M1 33 7 (dvD (nxD x) 10)) 33 u := by
    intro f i hi hf
    rw [iv_si, i1, ← hs1]
    show _ = (if i = 7 ∧ f = 0 then _ else _)
    by_cases c : i = 7 ∧ f = 0
    · rw [if_pos ⟨by omega, c.1⟩, if_pos c]
    · rw [if_neg (by omega), if_neg c]; exact hs f i hi hf
  have fu : Fr (fun r => (33 ≤ r ∧ r ≤ 39) ∨ r = 6) M (si M1 33 7 (dvD (nxD x) 10)) := (f1.mono (by intro r hr; omega)).ps (by omega)
  have lu : lg (si M1 33 7 (dvD (nxD x) 10)) 6 8 = nxD x := l1
  have iu : iv (si M1 33 7 (dvD (nxD x) 10)) 6 = iv M 6 := by funext j; rw [iv_si, if_neg (by omega), i1]
  generalize si M1 33 7 (dvD (nxD x) 10) = N at *
  refine x_drawS (by omega) (fu.shp hS) (by omega) (fun M2 f2 i2 l2 => ⟨_, rfl, f2.shp (fu.shp hS), ?_⟩)
  rw [lu] at l2 ⊢
  have g2 : Fr (fun r => (33 ≤ r ∧ r ≤ 39) ∨ r = 6) M M2 := fu.trans (f2.mono (by intro r hr; omega))
  have su2 : SB M2 33 u := by intro f i hi hf; rw [i2]; exact su f i hi hf
  have e6 : iv M2 6 = iv M 6 := by rw [i2]; exact iu
  rw [e6, hme]
  refine ⟨fun c => ?_, fun c => ?_⟩
  · have hd2 : drw I me s x = drwP I u (nxD (nxD x)) := by unfold drw; rw [if_pos c, hs1]
    rw [hd2] at h
    generalize nxD (nxD x) = y at *
    have A2 : IA M2 I := hA.xc g2 (by intro r hr; unfold Xc; omega)
    have enp : iv M2 29 0 = (I.np : Int) := A2.1
    rw [enp]
    refine x_drawS (by omega) (g2.shp hS) (by omega) (fun M3 f3 i3 l3 => ⟨_, rfl, f3.shp (g2.shp hS), ?_⟩)
    rw [l2] at l3 ⊢
    have s3 := f3.shp (g2.shp hS)
    rw [i3, enp]
    refine x_drawS (by omega) s3 (by omega) (fun M4 f4 i4 l4 => ⟨_, rfl, f4.shp s3, ?_⟩)
    rw [l3] at l4 ⊢
    have s4 := f4.shp s3
    refine x_drawS (by omega) s4 (by omega) (fun M5 f5 i5 l5 => ⟨_, rfl, f5.shp s4, ?_⟩)
    rw [l4] at l5 ⊢
    have s5 := f5.shp s4
    refine x_drawS (by omega) s5 (by omega) (fun M6 f6 i6 l6 => ⟨_, rfl, f6.shp s5, ?_⟩)
    rw [l5] at l6 ⊢
    have s6 := f6.shp s5
    have h1 := dvD_in (x := nxD y) (n := I.np) ⟨by omega, by omega⟩
    have h2 := dvD_in (x := nxD (nxD y)) (n := I.np) ⟨by omega, by omega⟩
    have h3 := dvD_in (x := nxD (nxD (nxD y))) (n := 3) ⟨by omega, by omega⟩
    have h4 := dvD_in (x := nxD (nxD (nxD (nxD y)))) (n := 9) ⟨by omega, by omega⟩
    unfold drwP at h
    dsimp only at h
    generalize nxD (nxD (nxD (nxD y))) = y4 at *
    generalize dvD (nxD y) I.np = p at *
    generalize dvD (nxD (nxD y)) I.np = o at *
    generalize dvD (nxD (nxD (nxD y))) 3 = k at *
    generalize dvD y4 9 = t at *
    have i62 : iv M6 = iv M2 := by rw [i6, i5, i4, i3]
    have g6 : Fr (fun r => (33 ≤ r ∧ r ≤ 39) ∨ r = 6) M M6 := (((g2.trans (f3.mono (by intro r hr; omega))).trans (f4.mono (by intro r hr; omega))).trans (f5.mono (by intro r hr; omega))).trans (f6.mono (by intro r hr; omega))
    have su6 : SB M6 33 u := by intro f i hi hf; rw [i62]; exact su2 f i hi hf
    have e66 : iv M6 6 = iv M 6 := by rw [i62]; exact e6
    have A6 : IA M6 I := hA.xc g6 (by intro r hr; unfold Xc; omega)
    obtain ⟨q, rfl⟩ : ∃ q : Nat, p = (q : Int) := ⟨p.toNat, by omega⟩
    rw [Int.toNat_natCast] at h
    refine ⟨fun c1 => ?_, fun c1 => ⟨fun c2 => ?_, fun c2 => ?_⟩⟩
    · rw [if_neg (fun z => z.1 c1)] at h
      exact h M6 g6 e66 su6 l6
    · rw [atv_n (by omega : q < 8), A6.2.2.2.2.1 q (by omega)] at c2
      rw [if_neg (fun z => by have := z.2.1; omega)] at h
      exact h M6 g6 e66 su6 l6
    · rw [atv_n (by omega : q < 8), A6.2.2.2.2.1 q (by omega)] at c2
      have hg1 : fG (I.mi q) k = 1 := by rcases fG_01 (mi := I.mi q) (k := k) with z | z; exact absurd z c2; exact z
      refine t_emptyPlace (by omega) s6 (by decide) su6.sa (by omega) ⟨_, rfl, s6, ?_⟩
      have e1 : smS M6 33 u 1 = u 1 := funext (fun i => smS_n (by decide))
      rw [e1]
      by_cases c3 : fE (u 1) q = -1
      · rw [if_neg (fun z => z.2.2 c3)] at h
        rw [c3]
        exact s_lay_no (by omega) s6 (by decide) (by omega) ⟨rfl, s6, h M6 g6 e66 su6 l6⟩
      · rw [if_pos ⟨c1, hg1, c3⟩] at h
        have hf := fE_in (u 1) q
        obtain ⟨r, hr⟩ : ∃ r : Nat, fE (u 1) q = (r : Int) := ⟨(fE (u 1) q).toNat, by omega⟩
        rw [hr] at h ⊢
        rw [Int.toNat_natCast] at h
        rw [w32_i (by omega) (by omega)]
        refine t_layIn (by omega) s6 (by decide) su6.sa (by omega) (by omega) (fun M7 f7 a7 => ⟨rfl, f7.shp s6, ?_⟩)
        refine h M7 (g6.trans (f7.mono (by intro r hr; unfold Sp at hr; omega))) (by rw [f7.eiv (by unfold Sp; omega)]; exact e66) ?_ (by rw [f7.elg (by unfold Sp; omega)]; exact l6)
        refine a7.sb (fun f i hf => ?_)
        unfold pLay
        rw [smS_n hf]
  · have hd2 : drw I me s x = (u, nxD (nxD x)) := by unfold drw; rw [if_neg c, hs1]
    rw [hd2] at h
    exact h M2 g2 e6 su2 l2
theorem m_drawHour {me : Int} (hd : 10 ≤ d) (hS : Shp M) (hA : IM M I) (hI : WI I) (hnp : 2 ≤ I.np) (hs : MRf (iv M 486) I.np s) (hw : WS I.np s) (hme : iv M 468 31 = me)
    (h : ∀ M', F4 (fun r => r = 486) (fun j => j = 34) M M' → (∀ i, 171 ≤ i → iv M' 486 i = iv M 486 i) → MRf (iv M' 486) I.np (drw I me s (lg M 468 34)).1 → lg M' 468 34 = (drw I me s (lg M 468 34)).2 → Q none M') : Call d mX11_drawHour [vR 468] M Q := by
  obtain ⟨e, rfl⟩ := dd (d := d) (by omega)
  have hn8 := hI.1
  generalize hx : lg M 468 34 = x at *
  refine vn_drawHour (by omega) hS (m_drawS (by omega) hS (by omega) (fun M1 f1 i1 l1 => ⟨_, rfl, f1.shp hS, ?_⟩))
  rw [hx] at l1 ⊢
  have s1 := f1.shp hS
  have b1 := dvD_in (x := nxD x) (n := 10) ⟨by omega, by omega⟩
  intro N hN sN
  have hwu : WS I.np (pSet s 0 7 (dvD (nxD x) 10)) := hw.set7 (by omega)
  generalize hs1 : pSet s 0 7 (dvD (nxD x) 10) = u at *
  have vN : ∀ i, iv N 486 i = if i = 168 then dvD (nxD x) 10 else iv M 486 i := by
    intro i; rw [hN]; simp only [iv_si, true_and]; rw [i1]
  have su : MRf (iv N 486) I.np u := by
    obtain ⟨a1, a2, a3, a4, a5⟩ := hs
    have e : ∀ f i, f ≠ 0 ∨ i ≠ 7 → u f i = s f i := by intro f i hfi; rw [← hs1]; exact if_neg (by omega)
    refine ⟨fun j hj => ?_, fun p hp => ?_, ?_, ?_, ?_⟩
    · rw [vN, if_neg (by omega), vN, if_neg (by omega), vN, if_neg (by omega), vN, if_neg (by omega), vN, if_neg (by omega), e 1 j (by omega), e 2 j (by omega), e 3 j (by omega), e 4 j (by omega)]
      exact a1 j hj
    · rw [vN, if_neg (by omega), e 6 p (by omega)]; exact a2 p hp
    · rw [vN, if_pos rfl, ← hs1]; exact (if_pos ⟨rfl, rfl⟩).symm
    · rw [vN, if_neg (by omega), e 0 8 (by omega)]; exact a4
    · rw [vN, if_neg (by omega), e 0 9 (by omega)]; exact a5
  have fu : F4 (fun r => r = 486) (fun j => j = 34) M N := by rw [hN]; exact (f1.mono (fun _ q => q.elim) (fun _ q => q)).ps rfl (by omega)
  have hiN : ∀ i, 171 ≤ i → iv N 486 i = iv M 486 i := by intro i hi; rw [vN, if_neg (by omega)]
  have lu : lg N 468 34 = nxD x := by rw [hN]; exact l1
  refine m_drawS (by omega) sN (by omega) (fun M2 f2 i2 l2 => ⟨_, rfl, f2.shp sN, ?_⟩)
  rw [lu] at l2 ⊢
  have g2 : F4 (fun r => r = 486) (fun j => j = 34) M M2 := fu.trans (f2.mono (fun _ q => q.elim) (fun _ q => q))
  have su2 : MRf (iv M2 486) I.np u := by rw [i2]; exact su
  have hi2 : ∀ i, 171 ≤ i → iv M2 486 i = iv M 486 i := by rw [i2]; exact hiN
  have e31 : iv M2 468 31 = me := by rw [(g2.2 31 (by omega)).1]; exact hme
  rw [e31]
  refine ⟨fun c => ?_, fun c => ?_⟩
  · have hd2 : drw I me s x = (u, nxD (nxD x)) := by unfold drw; rw [if_neg (by omega), hs1]
    rw [hd2] at h
    exact h M2 g2 hi2 su2 l2
  · have hd2 : drw I me s x = drwP I u (nxD (nxD x)) := by unfold drw; rw [if_pos (by omega), hs1]
    rw [hd2] at h
    generalize nxD (nxD x) = y at *
    have A2 : IM M2 I := g2.im hA (by intro r hr; omega) (by omega) (by omega)
    have enp : iv M2 468 25 = (I.np : Int) := A2.1
    rw [enp]
    refine m_drawS (by omega) (g2.shp hS) (by omega) (fun M3 f3 i3 l3 => ⟨_, rfl, f3.shp (g2.shp hS), ?_⟩)
    rw [l2] at l3 ⊢
    have s3 := f3.shp (g2.shp hS)
    rw [i3, enp]
    refine m_drawS (by omega) s3 (by omega) (fun M4 f4 i4 l4 => ⟨_, rfl, f4.shp s3, ?_⟩)
    rw [l3] at l4 ⊢
    have s4 := f4.shp s3
    refine m_drawS (by omega) s4 (by omega) (fun M5 f5 i5 l5 => ⟨_, rfl, f5.shp s4, ?_⟩)
    rw [l4] at l5 ⊢
    have s5 := f5.shp s4
    refine m_drawS (by omega) s5 (by omega) (fun M6 f6 i6 l6 => ⟨_, rfl, f6.shp s5, ?_⟩)
    rw [l5] at l6 ⊢
    have s6 := f6.shp s5
    have h1 := dvD_in (x := nxD y) (n := I.np) ⟨by omega, by omega⟩
    have h2 := dvD_in (x := nxD (nxD y)) (n := I.np) ⟨by omega, by omega⟩
    have h3 := dvD_in (x := nxD (nxD (nxD y))) (n := 3) ⟨by omega, by omega⟩
    have h4 := dvD_in (x := nxD (nxD (nxD (nxD y)))) (n := 9) ⟨by omega, by omega⟩
    unfold drwP at h
    dsimp only at h
    generalize nxD (nxD (nxD (nxD y))) = y4 at *
    generalize dvD (nxD y) I.np = p at *
    generalize dvD (nxD (nxD y)) I.np = o at *
    generalize dvD (nxD (nxD (nxD y))) 3 = k at *
    generalize dvD y4 9 = t at *
    have i62 : iv M6 = iv M2 := by rw [i6, i5, i4, i3]
    have w4 : ∀ {A B : jM}, F4 (fun _ => False) (fun j => j = 34) A B → F4 (fun r => r = 486) (fun j => j = 34) A B := fun q => q.mono (fun _ z => z.elim) (fun _ z => z)
    have g6 : F4 (fun r => r = 486) (fun j => j = 34) M M6 := (((g2.trans (w4 f3)).trans (w4 f4)).trans (w4 f5)).trans (w4 f6)
    have su6 : MRf (iv M6 486) I.np u := by rw [i62]; exact su2
    have hi6 : ∀ i, 171 ≤ i → iv M6 486 i = iv M 486 i := by rw [i62]; exact hi2
    have A6 : IM M6 I := g6.im hA (by intro r hr; omega) (by omega) (by omega)
    obtain ⟨q, rfl⟩ : ∃ q : Nat, p = (q : Int) := ⟨p.toNat, by omega⟩
    rw [Int.toNat_natCast] at h
    have ex : (3 * (q : Int) + 2).toNat = 3 * q + 2 := by omega
    have emi : iv M6 483 (3 * q + 2) = I.mi q := (A6.2.1 q (by omega)).2
    have hmi := hI.2.2.1 q (by omega)
    rw [ex, emi, fG_m hmi (by omega)]
    refine ⟨fun c1 => ?_, fun c1 => ⟨by omega, fun c2 => ?_, fun c2 => ?_⟩⟩
    · rw [if_neg (fun z => z.1 c1)] at h
      exact h M6 g6 hi6 su6 l6
    · rw [if_neg (fun z => by have := z.2.1; omega)] at h
      exact h M6 g6 hi6 su6 l6
    · have hg1 : fG (I.mi q) k = 1 := by rcases fG_01 (mi := I.mi q) (k := k) with z | z; exact absurd z c2; exact z
      refine m_emptyIn (by omega) s6 (MR_f.mpr su6) (by omega) ⟨_, rfl, s6, fun c3 => ?_, fun c3 => ?_⟩
      · rw [if_neg (fun z => z.2.2 c3)] at h
        exact h M6 g6 hi6 su6 l6
      · rw [if_pos ⟨c1, hg1, c3⟩] at h
        rw [w32_i (by omega) (by omega)]
        refine m_putThought (by omega) s6 (MR_f.mpr su6) hn8 (by omega) c3 (by omega) (fun M7 f7 a7 => ⟨rfl, f7.shp s6, ?_⟩)
        exact h M7 (g6.trans (F4.of f7.1 (by omega))) (fun i hi => by rw [f7.2 i hi]; exact hi6 i hi) a7 (by rw [f7.1.elg (by omega)]; exact l6)
end Draw
