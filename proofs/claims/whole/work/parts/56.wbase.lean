/-! THE WORLD: refusals, acts; small words -/
theorem i01 {c : Prop} {hc : Decidable c} : (@ite Int c hc 1 0) = 0 ↔ ¬ c := by
  by_cases q : c
  · rw [if_pos q]; simp [q]
  · rw [if_neg q]; simp [q]
theorem i01n {c : Prop} {hc : Decidable c} : (@ite Int c hc 1 0) ≠ 0 ↔ c := by
  by_cases q : c
  · rw [if_pos q]; simp [q]
  · rw [if_neg q]; simp [q]
theorem fIn_0 {v lo hi : Int} : fIn v lo hi = 0 ↔ ¬ (lo ≤ v ∧ v ≤ hi) := i01
theorem fIn_n {v lo hi : Int} : fIn v lo hi ≠ 0 ↔ lo ≤ v ∧ v ≤ hi := i01n
theorem fK_0 {k : Int} : fK k = 0 ↔ ¬ (0 ≤ k ∧ k < 3) := i01
theorem fK_n {k : Int} : fK k ≠ 0 ↔ 0 ≤ k ∧ k < 3 := i01n
theorem fP_0 {k : Int} : fP k = 0 ↔ ¬ (0 ≤ k ∧ k < 4) := i01
theorem fP_n {k : Int} : fP k ≠ 0 ↔ 0 ≤ k ∧ k < 4 := i01n
theorem fG_n {m k : Int} : fG m k ≠ 0 ↔ fG m k = 1 := by rcases fG_01 (mi := m) (k := k) with h | h <;> rw [h] <;> decide
theorem fG_0 {m k : Int} : fG m k = 0 ↔ ¬ fG m k = 1 := by rcases fG_01 (mi := m) (k := k) with h | h <;> rw [h] <;> decide
theorem w32np {n : Nat} (h : n ≤ 8) : w32 ((n : Int) - 1) = (n : Int) - 1 := w32_i (by omega) (by omega)
section WBase
variable {M M' : jM} {W W' : kW} {P J : Nat → Prop} {Q : Option jV → jM → Prop}
theorem CX.shp (h : CX M W) : Shp M := h.1
theorem CX.ia (h : CX M W) : IA M W.I := h.2.1
theorem CX.now (h : CX M W) : NowX M W := h.2.2.1
theorem CX.rfu (h : CX M W) : RefX M W := h.2.2.2.2.2.2.2.2.1
theorem CX.me (h : CX M W) : iv M 6 6 = W.me := h.2.2.2.2.2.2.2.2.2.2
theorem CX.np (h : CX M W) : iv M 29 0 = (W.I.np : Int) := h.2.1.1
theorem CM.shp (h : CM M W) : Shp M := h.1
theorem CM.im (h : CM M W) : IM M W.I := h.2.1
theorem CM.now (h : CM M W) : NowM M W := h.2.2.1
theorem CM.rfu (h : CM M W) : RefM M W := h.2.2.2.2.2.2.2.2.1
theorem CM.me (h : CM M W) : iv M 468 31 = W.me := h.2.2.2.2.2.2.2.2.2
theorem CM.np (h : CM M W) : iv M 468 25 = (W.I.np : Int) := h.2.1.1
theorem OKW.wi (h : OKW W) : WI W.I := h.1
theorem OKW.gs (h : OKW W) (hn : 0 < W.I.np) : GS W.I.np W.s := (h.2.2.1 hn).1
theorem OKW.n2 (h : OKW W) (hn : 0 < W.I.np) : 2 ≤ W.I.np := by rcases h.2.1 with z | z <;> omega
theorem OKW.h0 (h : OKW W) : 0 ≤ W.s 0 9 ∧ W.s 0 9 ≤ 9999 := by
  rcases Nat.eq_zero_or_pos W.I.np with z | z
  · have := (h.2.2.2.1 z).1; omega
  · obtain ⟨a, b, c, _⟩ := h.gs z
    have := a.2.2.2.2.2; omega
theorem OKW.hp (h : OKW W) : ∀ k, k < W.K → 0 ≤ W.P k 0 9 := fun k hk => (h.2.2.2.2.1.2 k hk).1.2.2.2.2.2.1
theorem OKW.ref {w : Nat} (h : OKW W) : OKW (W.ref w) := h
def OKA (n : Nat) (a : jA) : Prop := GS n a.1 ∧ a.2.1 ≤ 40 ∧ ∀ k, k < a.2.1 → GS n (a.2.2 k)
theorem OKW.oka (h : OKW W) (hn : 0 < W.I.np) : OKA W.I.np W.A := ⟨h.gs hn, h.2.2.2.2.1.1, h.2.2.2.2.1.2⟩
theorem OKW.setA {a : jA} (h : OKW W) (hn : 0 < W.I.np) (ha : OKA W.I.np a) : OKW (W.setA a) := by
  obtain ⟨h1, h2, h3, h4, h5, h6, h7, h8, h9, h10, h11⟩ := h
  exact ⟨h1, h2, fun z => ⟨ha.1, (h3 z).2⟩, fun z => absurd (show W.I.np = 0 from z) (by omega), ha.2, h6, h7, h8, h9, h10, h11⟩
theorem OKA.keep {n : Nat} {a : jA} {s : jS} (h : OKA n a) (hs : GS n s) : OKA n (s, shK a.2.1, shP a.1 a.2.2) := by
  refine ⟨hs, by show shK a.2.1 ≤ 40; have := h.2.1; unfold shK; split <;> omega, fun k hk => ?_⟩
  cases k with
  | zero => exact h.1
  | succ k =>
    refine h.2.2 k ?_
    have hk : k + 1 < shK a.2.1 := hk
    have := h.2.1
    unfold shK at hk
    split at hk <;> omega
theorem CX.ref {w : Nat} (h : CX M W) (hok : OKW W) (hw : w < 5) : CX (ptv M 5 28 (w : Int) (w32 (atv M 5 28 (w : Int) + 1))) (W.ref w) ∧ FX M (ptv M 5 28 (w : Int) (w32 (atv M 5 28 (w : Int) + 1))) := by
  have e : atv M 5 28 (w : Int) = W.rf w := by rw [atv_n hw]; exact h.rfu w hw
  rw [e]
  have hf : Fr (fun r => r = 28) M (ptv M 5 28 (w : Int) (w32 (W.rf w + 1))) := fr_ptv rfl
  have hp : ∀ r, r = 28 → Xa M r := fun r hr => by unfold Xa; omega
  refine ⟨h.act hok hf hp (hf.eiv (by omega)) (h.now.fr hf (fun r hr => Or.inr hr)) ?_ rfl rfl rfl rfl rfl rfl, FX.obs hf h.shp hp⟩
  intro i hi
  rw [iv_ptv]
  show _ = if i = w then _ else _
  by_cases c : i = w
  · rw [if_pos ⟨rfl, by omega, by omega⟩, if_pos c]
  · rw [if_neg (by omega), if_neg c]; exact h.rfu i hi
theorem X_ref (w : Nat) (h : CX M W) (hok : OKW W) (hw : w < 5) (k : ∀ M', FX M M' → CX M' (W.ref w) → Q (some (vI (-1))) M') : Q (some (vI (-1))) (ptv M 5 28 (w : Int) (w32 (atv M 5 28 (w : Int) + 1))) :=
  k _ (h.ref hok hw).2 (h.ref hok hw).1
/-- cells of the model's acts and of what is gone through apart -/
def Ya (r : Nat) : Prop := r = 477 ∨ r = 478 ∨ (486 ≤ r ∧ r ≤ 491) ∨ r = 496 ∨ r = 497
def Yj (j : Nat) : Prop := j = 0 ∨ j = 33 ∨ j = 34
theorem CM.act (h : CM M W) (hf : F4 P J M M') (hp : ∀ r, P r → Ya r) (hj : ∀ j, J j → Yj j) (hN : NowM M' W') (hR : RefM M' W') (hI : W'.I = W.I) (hT : W'.2.2.1 = W.2.2.1) (hPc : W'.pc = W.pc) (hNn : W'.2.2.2.2.1 = W.2.2.2.2.1) (hTp : W'.2.2.2.2.2.1 = W.2.2.2.2.2.1) (hRest : W'.2.2.2.2.2.2.2 = W.2.2.2.2.2.2.2) : CM M' W' := by
  obtain ⟨a0, a1, a2, a3, a4, a5, a6, a7, a8, a9⟩ := h
  have e : ∀ r, ¬ Ya r ∧ r ≠ 468 → iv M' r = iv M r := fun r hr => hf.eiv ⟨fun z => hr.1 (hp r z), hr.2⟩
  have e4 : ∀ j, ¬ Yj j → iv M' 468 j = iv M 468 j := fun j hr => (hf.2 j (fun z => hr (hj j z))).1
  have hh : W'.t = W.t := hT
  refine ⟨hf.shp a0, ?_, hN, ?_, ?_, ?_, ?_, ?_, hR, ?_⟩
  · rw [hI]; exact hf.im a1 (fun r hr z => by have := hp r z; unfold Ya at this; omega) (fun z => by have := hj _ z; unfold Yj at this; omega) (fun z => by have := hj _ z; unfold Yj at this; omega)
  · unfold PicM at a3 ⊢
    rw [hI, hPc, e4 46 (by unfold Yj; omega), e 498 (by unfold Ya; omega)]
    exact a3
  · unfold TolM TM at a4 ⊢
    rw [hI, hh, e4 26 (by unfold Yj; omega), e 484 (by unfold Ya; omega), e 483 (by unfold Ya; omega), e 482 (by unfold Ya; omega)]
    exact a4
  · unfold RidM at a5 ⊢
    have e1 : W'.nn = W.nn := congrArg (fun x => x.1) hNn
    have e2 : W'.nt = W.nt := congrArg (fun x => x.2) hNn
    rw [e1, e2, e4 42 (by unfold Yj; omega), e 492 (by unfold Ya; omega), e 493 (by unfold Ya; omega), e 494 (by unfold Ya; omega), e 495 (by unfold Ya; omega)]
    exact a5
  · unfold TapM at a6 ⊢
    have e1 : W'.tl = W.tl := congrArg (fun x => x.1) hTp
    have e2 : W'.tb = W.tb := congrArg (fun x => x.2) hTp
    rw [e1, e2, e4 2 (by unfold Yj; omega), e 469 (by unfold Ya; omega)]
    exact a6
  · unfold LawM MLawW mlF mSg mVl mRow at a7 ⊢
    have e1 : W'.lc = W.lc := congrArg (fun x => x.2.1.1) hRest
    have e2 : W'.lh = W.lh := congrArg (fun x => x.2.1.2) hRest
    have e3 : W'.lw = W.lw := congrArg (fun x => x.2.2) hRest
    rw [e1, e2, e3, e4 13 (by unfold Yj; omega), e4 30 (by unfold Yj; omega), e 470 (by unfold Ya; omega), e 471 (by unfold Ya; omega), e 473 (by unfold Ya; omega), e 474 (by unfold Ya; omega), e 475 (by unfold Ya; omega), e 476 (by unfold Ya; omega)]
    exact a7
  · have e1 : W'.me = W.me := congrArg (fun x => x.1) hRest
    rw [e1, e4 31 (by unfold Yj; omega)]
    exact a9
theorem FM.of (hf : F4 P J M M') (hp : ∀ r, P r → Ya r) : FM M M' := hf.1.mono (fun r hr => by
  rcases hr with z | z
  · have := hp r z; unfold Ya at this; omega
  · omega)
/-- nothing is other but what is gone through apart -/
def Yo (r : Nat) : Prop := r = 477 ∨ r = 478 ∨ (489 ≤ r ∧ r ≤ 491) ∨ r = 496 ∨ r = 497
theorem NowM.f4 (h : NowM M W) (hf : F4 P J M M') (hp : ∀ r, P r → r ≠ 486 ∧ r ≠ 488) (hj : ∀ j, J j → j ≠ 33) : NowM M' W := by
  unfold NowM PM at h ⊢
  rw [hf.eiv (r := 486) ⟨fun z => (hp _ z).1 rfl, by omega⟩, hf.eiv (r := 488) ⟨fun z => (hp _ z).2 rfl, by omega⟩, (hf.2 33 (fun z => hj _ z rfl)).1]
  exact h
theorem CM.obs (h : CM M W) (hf : F4 P J M M') (hp : ∀ r, P r → Yo r) (hj : ∀ j, J j → j = 0) : CM M' W := by
  refine h.act hf (fun r hr => by have := hp r hr; unfold Yo at this; unfold Ya; omega) (fun j z => Or.inl (hj j z)) (h.now.f4 hf (fun r z => by have := hp r z; unfold Yo at this; omega) (fun j z => by have := hj j z; omega)) ?_ rfl rfl rfl rfl rfl rfl
  have := h.rfu
  unfold RefM at this ⊢
  rw [hf.eiv (r := 487) ⟨fun z => by have := hp _ z; unfold Yo at this; omega, by omega⟩]
  exact this
theorem CM.ref {w : Nat} (h : CM M W) (hw : w < 5) : CM (si M 487 w (w32 (iv M 487 w + 1))) (W.ref w) ∧ FM M (si M 487 w (w32 (iv M 487 w + 1))) := by
  rw [h.rfu w hw]
  have hf : F4 (fun r => r = 487) (fun _ => False) M (si M 487 w (w32 (W.rf w + 1))) := F4.refl.ps rfl (by omega)
  have hp : ∀ r, r = 487 → Ya r := fun r hr => by unfold Ya; omega
  refine ⟨h.act hf hp (fun j z => z.elim) (h.now.f4 hf (fun r z => by omega) (fun j z => z.elim)) ?_ rfl rfl rfl rfl rfl rfl, FM.of hf hp⟩
  intro i hi
  rw [iv_si]
  show _ = if i = w then _ else _
  by_cases c : i = w
  · rw [if_pos ⟨rfl, c⟩, if_pos c]
  · rw [if_neg (by omega), if_neg c]; exact h.rfu i hi
end WBase
