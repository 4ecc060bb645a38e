/-! THE WORLD's acts -/
/-- an act: what was so is kept -/
def kpA (a : jA) (s : jS) : jA := (s, shK a.2.1, shP a.1 a.2.2)
def hrA (I : jI) (a : jA) : jA := kpA a (pH I a.1)
theorem hrA_9 {I : jI} {a : jA} : ∀ n, (itF (hrA I) n a).1 0 9 = a.1 0 9 + n
  | 0 => by simp [itF]
  | n + 1 => by
    have := hrA_9 (I := I) (a := a) n
    show pH I (itF (hrA I) n a).1 0 9 = _
    rw [pH_09, this]
    omega
theorem hrA_ok {I : jI} {a : jA} (hI : WI I) (h : OKA I.np a) : ∀ n : Nat, a.1 0 9 + n ≤ 9999 → OKA I.np (itF (hrA I) n a)
  | 0, _ => h
  | n + 1, hn => by
    have ih := hrA_ok hI h n (by omega)
    have h9 := hrA_9 (I := I) (a := a) n
    exact ih.keep (ih.1.hr hI (by omega))
/-- a year's hour: the draws' state goes along -/
def yrA (I : jI) (me : Int) (b : jA × Int) : jA × Int := (kpA b.1 (pH I (drw I me b.1.1 b.2).1), (drw I me b.1.1 b.2).2)
theorem yrA_9 {I : jI} {me : Int} {b : jA × Int} : ∀ n, (itF (yrA I me) n b).1.1 0 9 = b.1.1 0 9 + n
  | 0 => by simp [itF]
  | n + 1 => by
    have := yrA_9 (I := I) (me := me) (b := b) n
    show pH I (drw I me (itF (yrA I me) n b).1.1 (itF (yrA I me) n b).2).1 0 9 = _
    rw [pH_09, drw_o (Or.inl ⟨rfl, by decide⟩), this]
    omega
theorem yrA_ok {I : jI} {me : Int} {b : jA × Int} (hI : WI I) (hn2 : 2 ≤ I.np) (h : OKA I.np b.1) : ∀ n : Nat, b.1.1 0 9 + n ≤ 9999 → OKA I.np (itF (yrA I me) n b).1
  | 0, _ => h
  | n + 1, hn => by
    have ih := yrA_ok (me := me) hI hn2 h n (by omega)
    have h9 := yrA_9 (I := I) (me := me) (b := b) n
    refine ih.keep (GS.hr hI (GS.dr hI hn2 ih.1) ?_)
    rw [drw_o (Or.inl ⟨rfl, by decide⟩)]
    omega
-- what each act answers and makes of the world
def wHours (W : kW) (n : Int) : Int × kW := if W.I.np = 0 then (-1, W.ref 0) else if n < 1 ∨ 60 < n then (-1, W.ref 1) else if 9999 < W.s 0 9 + n then (-1, W.ref 4) else ((itF (hrA W.I) n.toNat W.A).1 0 9, W.setA (itF (hrA W.I) n.toNat W.A))
def wYears (W : kW) (n x : Int) : Int × kW := if W.I.np = 0 ∨ n < 1 ∨ 60 < n ∨ 9999 < W.s 0 9 + n then (-1, W) else ((itF (yrA W.I W.me) n.toNat (W.A, x)).1.1 0 9, W.setA (itF (yrA W.I W.me) n.toNat (W.A, x)).1)
def wThink (W : kW) (p o k t : Int) : Int × kW := if ¬ (0 ≤ p ∧ p < W.I.np ∧ 0 ≤ o ∧ o < W.I.np) then (-1, W.ref 0) else if p = o ∨ ¬ (0 ≤ k ∧ k < 3) ∨ t < 1 ∨ 9 < t then (-1, W.ref 1) else if fG (W.I.mi p.toNat) k = 0 then (-1, W.ref 2) else if fE (W.s 1) p.toNat = -1 then (-1, W.ref 3) else (fE (W.s 1) p.toNat, W.setA (kpA W.A (pLay W.s (4 * p.toNat + (fE (W.s 1) p.toNat).toNat) o k t)))
def wForget (W : kW) (p i : Int) : Int × kW := if ¬ (0 ≤ p ∧ p < W.I.np) then (-1, W.ref 0) else if ¬ (0 ≤ i ∧ i < 4) then (-1, W.ref 1) else if W.s 1 (4 * p.toNat + i.toNat) = -1 then (-1, W.ref 2) else (W.s 1 (4 * p.toNat + i.toNat), W.setA (kpA W.A (pSet W.s 1 (4 * p.toNat + i.toNat) (-1))))
def wHem (W : kW) (p n : Int) : Int × kW := if ¬ (0 ≤ p ∧ p < W.I.np) then (-1, W.ref 0) else if n < 1 ∨ 9 < n then (-1, W.ref 1) else if W.s 0 8 < n ∨ 99 < W.s 6 p.toNat + n then (-1, W.ref 3) else (W.s 6 p.toNat + n, W.setA (kpA W.A (pSet (pSet W.s 0 8 (W.s 0 8 - n)) 6 p.toNat (W.s 6 p.toNat + n))))
def wWind (W : kW) (v : Int) : Int × kW := if W.I.np = 0 then (-1, W.ref 0) else if v < 0 ∨ 9 < v then (-1, W.ref 1) else if v = W.s 0 7 then (-1, W.ref 2) else (W.s 0 7, W.setA (kpA W.A (pSet W.s 0 7 v)))
def wGive (W : kW) (n : Int) : Int × kW := if W.I.np = 0 then (-1, W.ref 0) else if n < 1 ∨ 50 < n then (-1, W.ref 1) else if 999 < W.s 0 8 + n then (-1, W.ref 3) else (W.s 0 8 + n, W.setA (kpA W.A (pSet W.s 0 8 (W.s 0 8 + n))))
def wUndo (W : kW) : Int × kW := if W.K = 0 then (-1, W) else ((W.K : Int) - 1, W.setA (W.P 0, W.K - 1, fun k => W.P (k + 1)))
def wImage (W : kW) : Int × kW := if W.I.np = 0 then (-1, W) else (W.s 0 9, W.setPc (some W.s))
def wBack (W : kW) : Int × kW := match W.pc with
  | none => (-1, W)
  | some u => (u 0 9, W.setA (u, 0, W.P))
section GSet
variable {n : Nat} {s : jS}
theorem WS.set1 {j : Nat} (h : WS n s) (hj : j < 32) : WS n (pSet s 1 j (-1)) := by
  obtain ⟨w1, w2, w3, w4, w5, w6⟩ := h
  have e : ∀ f i, f ≠ 1 ∨ i ≠ j → pSet s 1 j (-1) f i = s f i := fun f i hfi => if_neg (by omega)
  refine ⟨fun i hi => ?_, fun i hi hn => ?_, fun i hi => ?_, ?_, ?_, ?_⟩
  · rw [e 2 i (by omega), e 3 i (by omega), e 4 i (by omega)]
    have := w1 i hi
    by_cases c : i = j
    · have : pSet s 1 j (-1) 1 i = -1 := if_pos ⟨c, rfl⟩
      omega
    · rw [e 1 i (by omega)]; exact w1 i hi
  · by_cases c : i = j
    · exact if_pos ⟨c, rfl⟩
    · rw [e 1 i (by omega)]; exact w2 i hi hn
  · rw [e 6 i (by omega)]; exact w3 i hi
  · rw [e 0 7 (by omega)]; exact w4
  · rw [e 0 8 (by omega)]; exact w5
  · rw [e 0 9 (by omega)]; exact w6
theorem WS.set8 {v : Int} (h : WS n s) (hv : 0 ≤ v ∧ v ≤ 999) : WS n (pSet s 0 8 v) := by
  obtain ⟨w1, w2, w3, w4, w5, w6⟩ := h
  have e : ∀ f i, f ≠ 0 ∨ i ≠ 8 → pSet s 0 8 v f i = s f i := fun f i hfi => if_neg (by omega)
  have e8 : pSet s 0 8 v 0 8 = v := if_pos ⟨rfl, rfl⟩
  refine ⟨fun i hi => ?_, fun i hi hn => ?_, fun i hi => ?_, ?_, by rw [e8]; exact hv, ?_⟩
  · rw [e 1 i (by omega), e 2 i (by omega), e 3 i (by omega), e 4 i (by omega)]; exact w1 i hi
  · rw [e 1 i (by omega)]; exact w2 i hi hn
  · rw [e 6 i (by omega)]; exact w3 i hi
  · rw [e 0 7 (by omega)]; exact w4
  · rw [e 0 9 (by omega)]; exact w6
theorem WS.set6 {p : Nat} {v : Int} (h : WS n s) (hv : 0 ≤ v ∧ v ≤ 99) : WS n (pSet s 6 p v) := by
  obtain ⟨w1, w2, w3, w4, w5, w6⟩ := h
  have e : ∀ f i, f ≠ 6 ∨ i ≠ p → pSet s 6 p v f i = s f i := fun f i hfi => if_neg (by omega)
  refine ⟨fun i hi => ?_, fun i hi hn => ?_, fun i hi => ?_, ?_, ?_, ?_⟩
  · rw [e 1 i (by omega), e 2 i (by omega), e 3 i (by omega), e 4 i (by omega)]; exact w1 i hi
  · rw [e 1 i (by omega)]; exact w2 i hi hn
  · by_cases c : i = p
    · have : pSet s 6 p v 6 i = v := if_pos ⟨c, rfl⟩
      rw [this]; exact hv
    · rw [e 6 i (by omega)]; exact w3 i hi
  · rw [e 0 7 (by omega)]; exact w4
  · rw [e 0 8 (by omega)]; exact w5
  · rw [e 0 9 (by omega)]; exact w6
theorem pSet_o {f f0 i j : Nat} {v : Int} (h : f ≠ f0 ∨ i ≠ j) : pSet s f0 j v f i = s f i := if_neg (by omega)
theorem pSet_e {f0 j : Nat} {v : Int} : pSet s f0 j v f0 j = v := if_pos ⟨rfl, rfl⟩
end GSet
theorem okHours {W : kW} {n : Int} (h : OKW W) : OKW (wHours W n).2 := by
  unfold wHours
  split
  · exact h
  · rename_i c1
    split
    · exact h
    · split
      · exact h
      · rename_i c2 c3
        exact h.setA (by omega) (hrA_ok h.wi (h.oka (by omega)) _ (by have e : W.A.1 0 9 = W.s 0 9 := rfl; omega))
theorem okYears {W : kW} {n x : Int} (h : OKW W) : OKW (wYears W n x).2 := by
  unfold wYears
  split
  · exact h
  · rename_i c1
    exact h.setA (by omega) (yrA_ok h.wi (h.n2 (by omega)) (h.oka (by omega)) _ (by have e : (W.A, x).1.1 0 9 = W.s 0 9 := rfl; omega))
theorem okThink {W : kW} {p o k t : Int} (h : OKW W) : OKW (wThink W p o k t).2 := by
  unfold wThink
  split
  · exact h
  · rename_i c1
    split
    · exact h
    · split
      · exact h
      · split
        · exact h
        · rename_i c2 c3 c4
          have hn : 0 < W.I.np := by omega
          have g := h.gs hn
          have hf := fE_in (W.s 1) p.toNat
          have hn8 := h.wi.1
          refine h.setA hn ((h.oka hn).keep ⟨g.1.lay (by omega) (by omega) (by omega) (by omega), fun q hq => ?_, ?_, fun x hx => ?_⟩)
          · rw [pLay_o (by omega)]; exact g.2.1 q hq
          · rw [pLay_o (by omega)]; exact g.2.2.1
          · rw [pLay_o (by omega)]; exact g.2.2.2 x hx
theorem okForget {W : kW} {p i : Int} (h : OKW W) : OKW (wForget W p i).2 := by
  unfold wForget
  split
  · exact h
  · split
    · exact h
    · split
      · exact h
      · rename_i c1 c2 c3
        have hn : 0 < W.I.np := by omega
        have g := h.gs hn
        have hn8 := h.wi.1
        exact h.setA hn ((h.oka hn).keep ⟨g.1.set1 (by omega), fun q hq => by rw [pSet_o (by omega)]; exact g.2.1 q hq, by rw [pSet_o (by omega)]; exact g.2.2.1, fun x hx => by rw [pSet_o (by omega)]; exact g.2.2.2 x hx⟩)
theorem okHem {W : kW} {p n : Int} (h : OKW W) : OKW (wHem W p n).2 := by
  unfold wHem
  split
  · exact h
  · split
    · exact h
    · split
      · exact h
      · rename_i c1 c2 c3
        have hn : 0 < W.I.np := by omega
        have g := h.gs hn
        have hn8 := h.wi.1
        have g6 := g.1.2.2.1 p.toNat (by omega)
        have g8 := g.1.2.2.2.2.1
        refine h.setA hn ((h.oka hn).keep ⟨(g.1.set8 (by omega)).set6 (by omega), fun q hq => ?_, ?_, fun x hx => ?_⟩)
        · by_cases c : q = p.toNat
          · rw [c, pSet_e]; have := g.2.1 p.toNat (by omega); omega
          · rw [pSet_o (by omega), pSet_o (by omega)]; exact g.2.1 q hq
        · rw [pSet_o (by omega), pSet_o (by omega)]; exact g.2.2.1
        · rw [pSet_o (by omega), pSet_o (by omega)]; exact g.2.2.2 x hx
theorem okWind {W : kW} {v : Int} (h : OKW W) : OKW (wWind W v).2 := by
  unfold wWind
  split
  · exact h
  · split
    · exact h
    · split
      · exact h
      · rename_i c1 c2 c3
        have hn : 0 < W.I.np := by omega
        have g := h.gs hn
        exact h.setA hn ((h.oka hn).keep ⟨g.1.set7 (by omega), fun q hq => by rw [pSet_o (by omega)]; exact g.2.1 q hq, by rw [pSet_o (by omega)]; exact g.2.2.1, fun x hx => by rw [pSet_o (by omega)]; exact g.2.2.2 x hx⟩)
theorem okGive {W : kW} {n : Int} (h : OKW W) : OKW (wGive W n).2 := by
  unfold wGive
  split
  · exact h
  · split
    · exact h
    · split
      · exact h
      · rename_i c1 c2 c3
        have hn : 0 < W.I.np := by omega
        have g := h.gs hn
        have g8 := g.1.2.2.2.2.1
        exact h.setA hn ((h.oka hn).keep ⟨g.1.set8 (by omega), fun q hq => by rw [pSet_o (by omega)]; exact g.2.1 q hq, by rw [pSet_o (by omega)]; exact g.2.2.1, fun x hx => by rw [pSet_o (by omega)]; exact g.2.2.2 x hx⟩)
theorem okUndo {W : kW} (h : OKW W) : OKW (wUndo W).2 := by
  unfold wUndo
  split
  · exact h
  · rename_i c
    have hn : 0 < W.I.np := by
      rcases Nat.eq_zero_or_pos W.I.np with z | z
      · exact absurd (h.2.2.2.1 z).2.1 c
      · exact z
    exact h.setA hn ⟨h.2.2.2.2.1.2 0 (by omega), by show W.K - 1 ≤ 40; have := h.2.2.2.2.1.1; omega, fun k hk => h.2.2.2.2.1.2 (k + 1) (by have hk : k < W.K - 1 := hk; omega)⟩
theorem okImage {W : kW} (h : OKW W) : OKW (wImage W).2 := by
  unfold wImage
  split
  · exact h
  · rename_i c
    obtain ⟨h1, h2, h3, h4, h5, h6, h7, h8, h9, h10, h11⟩ := h
    exact ⟨h1, h2, h3, fun z => absurd z c, h5, fun u hu => by
      have : some W.s = some u := hu
      cases this
      exact (h3 (by omega)).1, h7, h8, h9, h10, h11⟩
theorem okBack {W : kW} (h : OKW W) : OKW (wBack W).2 := by
  unfold wBack
  split
  · exact h
  · rename_i u hu
    have hn : 0 < W.I.np := by
      rcases Nat.eq_zero_or_pos W.I.np with z | z
      · have := (h.2.2.2.1 z).2.2.1; rw [hu] at this; cases this
      · exact z
    exact h.setA hn ⟨h.2.2.2.2.2.1 u hu, by show 0 ≤ 40; omega, fun k hk => absurd hk (Nat.not_lt_zero k)⟩
