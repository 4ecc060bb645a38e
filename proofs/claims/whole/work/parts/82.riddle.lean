/-! THE RIDDLE: what one weighs with a thought more, out of two rows of masses; how many thoughts fit -/
def moJ (t : jS) (c : Nat) : Nat := 4 * cdP c + (fE (t 1) (cdP c)).toNat
theorem massS_at {I : jI} {s s' : jS} {i : Nat} (h1 : s' 1 i = s 1 i) (h2 : s' 2 i = s 2 i) (h3 : s' 3 i = s 3 i) (h4 : s' 4 i = s 4 i) (h7 : s' 0 7 = s 0 7) (h9 : s' 0 9 = s 0 9) : massS I s' i = massS I s i := by
  unfold massS
  rw [h1, h2, h3, h4, h7, h9]
theorem tqS_s {I : jI} {t : jS} {h : Nat} : tqS I t (h + 1) = pL I (tqS I t h) := rfl
theorem tqS_0 {I : jI} {t : jS} : tqS I t 0 = t := rfl
theorem tqS_w {I : jI} {t : jS} : ∀ h : Nat, tqS I t h 0 7 = t 0 7 ∧ tqS I t h 0 9 = t 0 9 + (h : Int) ∧ ∀ i, tqS I t h 6 i = t 6 i
  | 0 => ⟨rfl, (Int.add_zero _).symm, fun _ => rfl⟩
  | h + 1 => by
    obtain ⟨a1, a2, a3⟩ := tqS_w (I := I) (t := t) h
    rw [tqS_s]
    exact ⟨by rw [pL_07, a1], by rw [pL_09, a2]; omega, fun i => by rw [pL_6, a3]⟩
theorem tqS_1 {I : jI} {t : jS} {j : Nat} : ∀ h : Nat, tqS I t h 1 j = t 1 j ∨ tqS I t h 1 j = -1
  | 0 => Or.inl rfl
  | h + 1 => by
    rw [tqS_s, pL_1]
    split
    · exact Or.inr rfl
    · exact tqS_1 h
theorem tqS_ws {I : jI} {t : jS} {n h : Nat} (hw : WS n t) (h9 : t 0 9 = 0) (hh : h ≤ 100) : WS n (tqS I t h) := (itL_ws (I := I) hw h (by omega)).1
theorem moS_o {t : jS} {c f i : Nat} (h : i ≠ moJ t c ∨ f = 0 ∨ 5 ≤ f) : moS t c f i = t f i := pLay_o h
theorem moJ_4 {t : jS} {c : Nat} (hE : fE (t 1) (cdP c) ≠ -1) : moJ t c / 4 = cdP c ∧ moJ t c < 4 * cdP c + 4 := by
  have := fE_in (t 1) (cdP c)
  unfold moJ
  omega
theorem tq_o {I : jI} {t : jS} {c i : Nat} (hi : i ≠ moJ t c) (h : Nat) : (tqS I (moS t c) h 1 i = tqS I t h 1 i ∧ tqS I (moS t c) h 2 i = tqS I t h 2 i ∧ tqS I (moS t c) h 3 i = tqS I t h 3 i ∧ tqS I (moS t c) h 4 i = tqS I t h 4 i) ∧ massS I (tqS I (moS t c) h) i = massS I (tqS I t h) i := by
  have e7 : moS t c 0 7 = t 0 7 := moS_o (Or.inr (Or.inl rfl))
  have e9 : moS t c 0 9 = t 0 9 := moS_o (Or.inr (Or.inl rfl))
  have ms : ∀ h, (tqS I (moS t c) h 1 i = tqS I t h 1 i ∧ tqS I (moS t c) h 2 i = tqS I t h 2 i ∧ tqS I (moS t c) h 3 i = tqS I t h 3 i ∧ tqS I (moS t c) h 4 i = tqS I t h 4 i) → massS I (tqS I (moS t c) h) i = massS I (tqS I t h) i := fun h q => massS_at q.1 q.2.1 q.2.2.1 q.2.2.2 (by rw [(tqS_w h).1, (tqS_w h).1, e7]) (by rw [(tqS_w h).2.1, (tqS_w h).2.1, e9])
  induction h with
  | zero => exact ⟨⟨moS_o (Or.inl hi), moS_o (Or.inl hi), moS_o (Or.inl hi), moS_o (Or.inl hi)⟩, ms 0 ⟨moS_o (Or.inl hi), moS_o (Or.inl hi), moS_o (Or.inl hi), moS_o (Or.inl hi)⟩⟩
  | succ h ih =>
    obtain ⟨⟨a1, a2, a3, a4⟩, a5⟩ := ih
    have q : tqS I (moS t c) (h + 1) 1 i = tqS I t (h + 1) 1 i ∧ tqS I (moS t c) (h + 1) 2 i = tqS I t (h + 1) 2 i ∧ tqS I (moS t c) (h + 1) 3 i = tqS I t (h + 1) 3 i ∧ tqS I (moS t c) (h + 1) 4 i = tqS I t (h + 1) 4 i :=
      ⟨by rw [tqS_s, tqS_s, pL_1, pL_1, a5, a1], by rw [tqS_s, tqS_s, pL_2, pL_2, a2], by rw [tqS_s, tqS_s, pL_3, pL_3, a3], by rw [tqS_s, tqS_s, pL_4, pL_4, a5, a4]⟩
    exact ⟨q, ms _ q⟩
theorem moM_y {I : jI} {t : jS} {p k g : Nat} : ∀ {h : Nat}, (h = 0 ∨ moM I t p k g (h - 1) ≠ 0) → moM I t p k g h = massF I p (g : Nat) (k : Nat) ((h : Nat) : Int) (t 0 7) ((h : Nat) : Int)
  | 0, _ => rfl
  | h + 1, q => by
    simp only [moM]
    rw [if_neg (by simpa using q)]
theorem moM_n {I : jI} {t : jS} {p k g h : Nat} (q : moM I t p k g h = 0) : moM I t p k g (h + 1) = 0 := by
  simp only [moM]
  rw [if_pos q]
theorem moM_in {I : jI} {t : jS} {p k g : Nat} (hI : WI I) (hp : p < 8) : ∀ h : Nat, 0 ≤ moM I t p k g h ∧ moM I t p k g h ≤ 134217728
  | 0 => (massF_in hI hp).2.2
  | h + 1 => by
    simp only [moM]
    split
    · omega
    · exact (massF_in hI hp).2.2
theorem tq_J {I : jI} {t : jS} {c : Nat} (hE : fE (t 1) (cdP c) ≠ -1) (h9 : t 0 9 = 0) : ∀ h : Nat, h ≤ 90 → (tqS I (moS t c) h 2 (moJ t c) = (cdK c : Nat) ∧ tqS I (moS t c) h 3 (moJ t c) = (cdT c : Nat)) ∧ massS I (tqS I (moS t c) h) (moJ t c) = moM I t (cdP c) (cdK c) (cdT c) h ∧ ((tqS I (moS t c) h 1 (moJ t c) = (cdO c : Nat) ∧ tqS I (moS t c) h 4 (moJ t c) = (h : Nat)) ∨ (tqS I (moS t c) h 1 (moJ t c) = -1 ∧ moM I t (cdP c) (cdK c) (cdT c) h = 0)) := by
  have e7 : moS t c 0 7 = t 0 7 := moS_o (Or.inr (Or.inl rfl))
  have e9 : moS t c 0 9 = t 0 9 := moS_o (Or.inr (Or.inl rfl))
  obtain ⟨j4, _⟩ := moJ_4 hE
  have w7 : ∀ h, tqS I (moS t c) h 0 7 = t 0 7 := fun h => by rw [(tqS_w h).1, e7]
  have w9 : ∀ h : Nat, tqS I (moS t c) h 0 9 = (h : Int) := fun h => by rw [(tqS_w h).2.1, e9, h9]; omega
  intro h
  induction h with
  | zero =>
    intro _
    have a1 : tqS I (moS t c) 0 1 (moJ t c) = (cdO c : Nat) := pLay_1
    have a2 : tqS I (moS t c) 0 2 (moJ t c) = (cdK c : Nat) := pLay_2
    have a3 : tqS I (moS t c) 0 3 (moJ t c) = (cdT c : Nat) := pLay_3
    have a4 : tqS I (moS t c) 0 4 (moJ t c) = 0 := pLay_4
    refine ⟨⟨a2, a3⟩, ?_, Or.inl ⟨a1, a4⟩⟩
    unfold massS
    rw [a1, if_neg (by omega), j4, a2, a3, a4, w7, w9]
    rfl
  | succ h ih =>
    intro hh
    obtain ⟨⟨a2, a3⟩, a5, a14⟩ := ih (by omega)
    have b2 : tqS I (moS t c) (h + 1) 2 (moJ t c) = (cdK c : Nat) := by rw [tqS_s, pL_2, a2]
    have b3 : tqS I (moS t c) (h + 1) 3 (moJ t c) = (cdT c : Nat) := by rw [tqS_s, pL_3, a3]
    refine ⟨⟨b2, b3⟩, ?_⟩
    by_cases z : moM I t (cdP c) (cdK c) (cdT c) h = 0
    · have b1 : tqS I (moS t c) (h + 1) 1 (moJ t c) = -1 := by rw [tqS_s, pL_1, a5, if_pos z]
      exact ⟨by rw [massS_no b1, moM_n z], Or.inr ⟨b1, moM_n z⟩⟩
    · rcases a14 with ⟨a1, a4⟩ | ⟨_, y⟩
      · have b1 : tqS I (moS t c) (h + 1) 1 (moJ t c) = (cdO c : Nat) := by rw [tqS_s, pL_1, a5, if_neg z, a1]
        have b4 : tqS I (moS t c) (h + 1) 4 (moJ t c) = ((h + 1 : Nat) : Int) := by
          rw [tqS_s, pL_4, a5, a4, if_pos ⟨z, by omega⟩]
          omega
        refine ⟨?_, Or.inl ⟨b1, b4⟩⟩
        rw [moM_y (h := h + 1) (Or.inr z)]
        unfold massS
        rw [b1, if_neg (by omega), j4, b2, b3, b4, w7, w9]
      · exact absurd y z
theorem trW_plain {I : jI} {t : jS} {c h p : Nat} (hE : fE (t 1) (cdP c) ≠ -1) (hp : cdO c ≠ p) : trW I t c h p = wtS (pW I (tqS I t h)) p := by
  unfold trW
  rw [wtS_pW, wtS_pW, (tqS_w h).2.2, (tqS_w h).2.2, moS_o (f := 6) (Or.inr (Or.inr (by decide)))]
  refine wtF_cg2 32 (fun j _ => ?_)
  by_cases z : j = moJ t c
  · rw [z]
    have a1 : moS t c 1 (moJ t c) = (cdO c : Nat) := pLay_1
    have a2 : t 1 (moJ t c) = -1 := fE_at hE
    have b1 := tqS_1 (I := I) (t := moS t c) (j := moJ t c) h
    have b2 := tqS_1 (I := I) (t := t) (j := moJ t c) h
    rw [a1] at b1
    rw [a2] at b2
    constructor
    · constructor <;> intro q <;> omega
    · intro q; omega
  · obtain ⟨⟨a1, _⟩, a5⟩ := tq_o (I := I) z h
    rw [a1, a5]
    exact ⟨Iff.rfl, fun _ => rfl⟩
/-- as the class sums it up -/
def wwF (t : jS) (J : Nat) (m : Nat → Int) (mo : Int) (p : Nat) : Nat → Int
  | 0 => 1000 * t 6 p
  | i + 1 => if i = J then rnd (wwF t J m mo p i + mo) else if t 1 i = (p : Int) then rnd (wwF t J m mo p i + m i) else wwF t J m mo p i
theorem wwF_eq {I : jI} {t : jS} {c h p n : Nat} (hI : WI I) (hw : WS n t) (hE : fE (t 1) (cdP c) ≠ -1) (h9 : t 0 9 = 0) (hh : h ≤ 90) (hp : cdO c = p) (hp8 : p < 8) : ∀ i, i ≤ 32 → wwF t (moJ t c) (massS I (tqS I t h)) (moM I t (cdP c) (cdK c) (cdT c) h) p i = wtF (tqS I (moS t c) h 1) (massS I (tqS I (moS t c) h)) p (1000 * t 6 p) i
  | 0, _ => rfl
  | i + 1, hi => by
    have ih := wwF_eq hI hw hE h9 hh hp hp8 i (by omega)
    have h6 := hw.2.2.1 p hp8
    have hr := (wtF_rnd (w := tqS I (moS t c) h 1) (m := massS I (tqS I (moS t c) h)) (p := (p : Int)) (s0 := 1000 * t 6 p) ⟨by omega, by omega⟩ i (fun j hj => (massS_in hI (by omega)).1)).2
    simp only [wwF, wtF]
    rw [ih]
    by_cases z : i = moJ t c
    · rw [if_pos z, z]
      obtain ⟨_, a5, a14⟩ := tq_J (I := I) hE h9 h hh
      rw [z] at hr
      rcases a14 with ⟨a1, _⟩ | ⟨a1, y⟩
      · rw [a1, if_pos (by omega), a5]
      · rw [a1, if_neg (by omega), y, Int.add_zero]
        exact hr
    · rw [if_neg z]
      obtain ⟨⟨a1, _⟩, a5⟩ := tq_o (I := I) z h
      rw [a1, a5]
      rcases tqS_1 (I := I) (t := t) (j := i) h with y | y
      · rw [y]
      · rw [y, massS_no y, Int.add_zero, if_neg (by omega : ¬ (-1 : Int) = (p : Int))]
        split
        · exact hr
        · rfl
theorem trW_sum {I : jI} {t : jS} {c h p n : Nat} (hI : WI I) (hw : WS n t) (hE : fE (t 1) (cdP c) ≠ -1) (h9 : t 0 9 = 0) (hh : h ≤ 90) (hp : cdO c = p) (hp8 : p < 8) : trW I t c h p = wwF t (moJ t c) (massS I (tqS I t h)) (moM I t (cdP c) (cdK c) (cdT c) h) p 32 := by
  rw [wwF_eq hI hw hE h9 hh hp hp8 32 (by omega)]
  unfold trW
  rw [wtS_pW, (tqS_w h).2.2, moS_o (f := 6) (Or.inr (Or.inr (by decide)))]
-- how many fit
section FitN
variable {I : jI} {t : jS} {nn : Nat} {nt : Nat → Nat → Int}
theorem fitN_y {c : Nat} (h : fitP I t nn nt c) : fitN I t nn nt (c + 1) = fitN I t nn nt c + 1 := by
  simp only [fitN]
  rw [if_pos (fitB_t.mpr h)]
theorem fitN_n {c : Nat} (h : ¬ fitP I t nn nt c) : fitN I t nn nt (c + 1) = fitN I t nn nt c := by
  simp only [fitN]
  rw [if_neg (fun z => h (fitB_t.mp z))]
theorem fitN_1 {c : Nat} : fitN I t nn nt c ≤ fitN I t nn nt (c + 1) ∧ fitN I t nn nt (c + 1) ≤ fitN I t nn nt c + 1 := by
  by_cases z : fitP I t nn nt c
  · rw [fitN_y z]; omega
  · rw [fitN_n z]; omega
theorem fitN_add {a : Nat} (n : Nat) : fitN I t nn nt a ≤ fitN I t nn nt (a + n) ∧ fitN I t nn nt (a + n) ≤ fitN I t nn nt a + n := by
  induction n with
  | zero => exact ⟨Nat.le_refl _, Nat.le_refl _⟩
  | succ n ih =>
    have h1 := fitN_1 (I := I) (t := t) (nn := nn) (nt := nt) (c := a + n)
    rw [← Nat.add_assoc]
    omega
theorem fitN_mono {a b : Nat} (h : a ≤ b) : fitN I t nn nt a ≤ fitN I t nn nt b := by
  obtain ⟨n, rfl⟩ : ∃ n, b = a + n := ⟨b - a, by omega⟩
  exact (fitN_add n).1
theorem fitN_skip {a : Nat} (n : Nat) (h : ∀ c, a ≤ c → c < a + n → ¬ fitP I t nn nt c) : fitN I t nn nt (a + n) = fitN I t nn nt a := by
  induction n with
  | zero => rfl
  | succ n ih =>
    rw [← Nat.add_assoc, fitN_n (h (a + n) (by omega) (by omega))]
    exact ih (fun c h1 h2 => h c h1 (by omega))
theorem cd_of {p q x : Nat} (hq : q < 10) (hx : x < 100) : cdP (1000 * p + 100 * q + x) = p ∧ cdO (1000 * p + 100 * q + x) = q ∧ cdK (1000 * p + 100 * q + x) = x / 10 ∧ cdT (1000 * p + 100 * q + x) = x % 10 := by
  unfold cdP cdO cdK cdT
  omega
theorem fit_no {p q x : Nat} (hq : q < 10) (hx : x < 100) (h : I.np ≤ p ∨ I.np ≤ q ∨ p = q ∨ 30 ≤ x ∨ x % 10 = 0 ∨ fG (I.mi p) ((x / 10 : Nat) : Int) ≠ 1 ∨ fE (t 1) p = -1) : ¬ fitP I t nn nt (1000 * p + 100 * q + x) := by
  intro z
  obtain ⟨a1, a2, a3, a4, a5, a6, a7⟩ := z.1
  obtain ⟨c1, c2, c3, c4⟩ := cd_of (p := p) (q := q) (x := x) hq hx
  rw [c1] at a1 a3 a6 a7
  rw [c2] at a2 a3
  rw [c3] at a4 a6
  rw [c4] at a5
  rcases h with h | h | h | h | h | h | h
  · omega
  · omega
  · exact a3 h
  · omega
  · omega
  · exact h a6
  · exact a7 h
theorem fitN_100 {p q : Nat} (hq : q < 10) : fitN I t nn nt (1000 * p + 100 * (q + 1)) ≤ fitN I t nn nt (1000 * p + 100 * q) + (if q = p ∨ I.np ≤ q then 0 else 27) := by
  have sk : ∀ x n, x + n ≤ 100 → (∀ y, x ≤ y → y < x + n → I.np ≤ p ∨ I.np ≤ q ∨ p = q ∨ 30 ≤ y ∨ y % 10 = 0) → fitN I t nn nt (1000 * p + 100 * q + x + n) = fitN I t nn nt (1000 * p + 100 * q + x) := by
    intro x n hx hy
    refine fitN_skip n (fun c h1 h2 => ?_)
    obtain ⟨y, rfl⟩ : ∃ y, c = 1000 * p + 100 * q + y := ⟨c - (1000 * p + 100 * q), by omega⟩
    have := hy y (by omega) (by omega)
    exact fit_no hq (by omega) (by omega)
  have e : 1000 * p + 100 * (q + 1) = 1000 * p + 100 * q + 0 + 100 := by omega
  split
  · rename_i z
    rw [e, sk 0 100 (by omega) (fun y _ _ => by omega)]
    exact Nat.le_refl _
  · have s0 := sk 0 1 (by omega) (fun y _ _ => by omega)
    have s1 := (fitN_add (I := I) (t := t) (nn := nn) (nt := nt) (a := 1000 * p + 100 * q + 1) 9).2
    have s2 := sk 10 1 (by omega) (fun y _ _ => by omega)
    have s3 := (fitN_add (I := I) (t := t) (nn := nn) (nt := nt) (a := 1000 * p + 100 * q + 11) 9).2
    have s4 := sk 20 1 (by omega) (fun y _ _ => by omega)
    have s5 := (fitN_add (I := I) (t := t) (nn := nn) (nt := nt) (a := 1000 * p + 100 * q + 21) 9).2
    have s6 := sk 30 70 (by omega) (fun y _ _ => by omega)
    rw [show 1000 * p + 100 * q + 0 + 1 = 1000 * p + 100 * q + 1 by omega, show 1000 * p + 100 * q + 0 = 1000 * p + 100 * q by omega] at s0
    rw [show 1000 * p + 100 * q + 1 + 9 = 1000 * p + 100 * q + 10 by omega] at s1
    rw [show 1000 * p + 100 * q + 10 + 1 = 1000 * p + 100 * q + 11 by omega] at s2
    rw [show 1000 * p + 100 * q + 11 + 9 = 1000 * p + 100 * q + 20 by omega] at s3
    rw [show 1000 * p + 100 * q + 20 + 1 = 1000 * p + 100 * q + 21 by omega] at s4
    rw [show 1000 * p + 100 * q + 21 + 9 = 1000 * p + 100 * q + 30 by omega] at s5
    rw [show 1000 * p + 100 * q + 30 + 70 = 1000 * p + 100 * (q + 1) by omega] at s6
    omega
theorem fitN_q {p : Nat} (hp : p < 8) (hn : I.np ≤ 8) : ∀ q, q ≤ 10 → fitN I t nn nt (1000 * p + 100 * q) + 27 * (if p < q then 1 else 0) ≤ fitN I t nn nt (1000 * p) + 27 * (if q ≤ 8 then q else 8)
  | 0, _ => by simp
  | q + 1, hq => by
    have ih := fitN_q hp hn q (by omega)
    have h1 := fitN_100 (I := I) (t := t) (nn := nn) (nt := nt) (p := p) (q := q) (by omega)
    by_cases c1 : q = p
    · rw [if_pos (Or.inl c1)] at h1
      rw [if_neg (by omega), if_pos (by omega)] at ih
      rw [if_pos (by omega), if_pos (by omega)]
      omega
    · by_cases c2 : q < 8
      · have h2 : (if q = p ∨ I.np ≤ q then 0 else 27) ≤ 27 := by split <;> omega
        rw [if_pos (show q ≤ 8 by omega)] at ih
        rw [if_pos (show q + 1 ≤ 8 by omega)]
        by_cases c3 : p < q
        · rw [if_pos c3] at ih
          rw [if_pos (by omega)]
          omega
        · rw [if_neg c3] at ih
          rw [if_neg (by omega)]
          omega
      · rw [if_pos (by omega)] at h1
        rw [if_pos (by omega)] at ih
        rw [if_pos (by omega)]
        by_cases c4 : q ≤ 8
        · rw [if_pos c4] at ih
          rw [if_neg (by omega)]
          omega
        · rw [if_neg c4] at ih
          rw [if_neg (by omega)]
          omega
theorem fitN_p (hn : I.np ≤ 8) : ∀ p, p ≤ 8 → fitN I t nn nt (1000 * p) ≤ 189 * p
  | 0, _ => Nat.le_refl _
  | p + 1, hp => by
    have ih := fitN_p hn p (by omega)
    have h1 := fitN_q (I := I) (t := t) (nn := nn) (nt := nt) (p := p) (by omega) hn 10 (by omega)
    rw [if_pos (by omega), if_neg (by omega)] at h1
    rw [show 1000 * (p + 1) = 1000 * p + 100 * 10 by omega]
    omega
theorem fitN_all (hn : I.np ≤ 8) : fitN I t nn nt (1000 * I.np) ≤ 1512 := by
  have := fitN_p (I := I) (t := t) (nn := nn) (nt := nt) hn I.np hn
  omega
theorem fitN_lt {c n : Nat} (h : fitP I t nn nt c) (hc : c < n) : fitN I t nn nt c < fitN I t nn nt n := by
  have h1 := fitN_y h
  have h2 := fitN_mono (I := I) (t := t) (nn := nn) (nt := nt) (a := c + 1) (b := n) (by omega)
  omega
/-- the i-th that fits -/
noncomputable def fitC (I : jI) (t : jS) (nn : Nat) (nt : Nat → Nat → Int) (i : Int) : Nat → Int
  | 0 => -1
  | c + 1 => if fitB I t nn nt c = true ∧ (fitN I t nn nt c : Int) = i then (c : Int) else fitC I t nn nt i c
theorem fitC_at {i : Int} {c : Nat} (h : fitP I t nn nt c) (hi : (fitN I t nn nt c : Int) = i) : ∀ n, c < n → fitC I t nn nt i n = (c : Int)
  | 0, hn => absurd hn (by omega)
  | n + 1, hn => by
    simp only [fitC]
    by_cases z : c = n
    · rw [← z, if_pos ⟨fitB_t.mpr h, hi⟩]
    · have := fitN_lt (n := n) h (by omega)
      rw [if_neg (fun q => by omega)]
      exact fitC_at h hi n (by omega)
theorem fitC_no {i : Int} : ∀ n, (∀ c, c < n → fitP I t nn nt c → (fitN I t nn nt c : Int) ≠ i) → fitC I t nn nt i n = -1
  | 0, _ => rfl
  | n + 1, h => by
    simp only [fitC]
    rw [if_neg (fun q => h n (by omega) (fitB_t.mp q.1) q.2)]
    exact fitC_no n (fun c hc => h c (by omega))
theorem fitC_ex {i : Nat} : ∀ n, i < fitN I t nn nt n → ∃ c, c < n ∧ fitP I t nn nt c ∧ fitN I t nn nt c = i
  | 0, h => absurd h (Nat.not_lt_zero _)
  | n + 1, h => by
    by_cases z : fitP I t nn nt n
    · rw [fitN_y z] at h
      by_cases y : fitN I t nn nt n = i
      · exact ⟨n, by omega, z, y⟩
      · obtain ⟨c, c1, c2, c3⟩ := fitC_ex (i := i) n (by omega)
        exact ⟨c, by omega, c2, c3⟩
    · rw [fitN_n z] at h
      obtain ⟨c, c1, c2, c3⟩ := fitC_ex n h
      exact ⟨c, by omega, c2, c3⟩
theorem fitC_big {i : Int} {n : Nat} (h : (fitN I t nn nt n : Int) ≤ i) : fitC I t nn nt i n = -1 := fitC_no n (fun c hc hf => by have := fitN_lt (n := n) hf hc; omega)
end FitN
def cnB (b : Nat → Bool) : Nat → Nat
  | 0 => 0
  | n + 1 => if b n = true then cnB b n + 1 else cnB b n
theorem cnB_1 {b : Nat → Bool} {n : Nat} : cnB b n ≤ cnB b (n + 1) ∧ cnB b (n + 1) ≤ cnB b n + 1 := by
  simp only [cnB]
  split <;> omega
theorem cnB_le {b : Nat → Bool} : ∀ n, cnB b n ≤ n
  | 0 => Nat.le_refl _
  | n + 1 => by have := cnB_le (b := b) n; have := (cnB_1 (b := b) (n := n)).2; omega
theorem cnB_mono {b : Nat → Bool} {a : Nat} : ∀ n, cnB b a ≤ cnB b (a + n)
  | 0 => Nat.le_refl _
  | n + 1 => Nat.le_trans (cnB_mono n) (cnB_1 (n := a + n)).1
theorem cnB_sub {b b' : Nat → Bool} (h : ∀ c, b' c = true → b c = true) {a : Nat} : ∀ n, cnB b (a + n) = cnB b a → cnB b' (a + n) = cnB b' a
  | 0, _ => rfl
  | n + 1, e => by
    have h1 := cnB_mono (b := b) (a := a) n
    have h2 := (cnB_1 (b := b) (n := a + n)).1
    rw [show a + (n + 1) = (a + n) + 1 by omega] at e ⊢
    have e1 : cnB b (a + n) = cnB b a := by omega
    have e2 : ¬ b (a + n) = true := by
      intro z
      have : cnB b (a + n + 1) = cnB b (a + n) + 1 := by simp only [cnB]; rw [if_pos z]
      omega
    have ih := cnB_sub h n e1
    rw [← ih]
    simp only [cnB]
    rw [if_neg (fun z => e2 (h _ z))]
theorem cnB_sub2 {b b' : Nat → Bool} (h : ∀ c, b' c = true → b c = true) {x y : Nat} (e : cnB b x = cnB b y) : cnB b' x = cnB b' y := by
  rcases Nat.le_total x y with z | z
  · obtain ⟨n, rfl⟩ : ∃ n, y = x + n := ⟨y - x, by omega⟩
    exact (cnB_sub h n e.symm).symm
  · obtain ⟨n, rfl⟩ : ∃ n, x = y + n := ⟨x - y, by omega⟩
    exact cnB_sub h n e
theorem fitN_cn {I : jI} {t : jS} {nn : Nat} {nt : Nat → Nat → Int} : ∀ n, fitN I t nn nt n = cnB (fitB I t nn nt) n
  | 0 => rfl
  | n + 1 => by
    simp only [fitN, cnB]
    rw [fitN_cn n]
/-- of those that fit: by which the heft is so; of this one alone; of others -/
noncomputable def alB (I : jI) (t : jS) (nn : Nat) (nt : Nat → Nat → Int) (p h : Nat) (x : Int) (c : Nat) : Bool := fitB I t nn nt c && decide (hft (trW I t c h p) = x)
noncomputable def alO (I : jI) (t : jS) (nn : Nat) (nt : Nat → Nat → Int) (p h : Nat) (x : Int) (c : Nat) : Bool := fitB I t nn nt c && (decide (cdO c = p) && decide (hft (trW I t c h p) = x))
noncomputable def otB (I : jI) (t : jS) (nn : Nat) (nt : Nat → Nat → Int) (p : Nat) (c : Nat) : Bool := fitB I t nn nt c && !decide (cdO c = p)
theorem alB_sum {I : jI} {t : jS} {nn : Nat} {nt : Nat → Nat → Int} {p h : Nat} {x : Int} : ∀ n, cnB (alB I t nn nt p h x) n = cnB (alO I t nn nt p h x) n + (if x = hft (wtS (pW I (tqS I t h)) p) then cnB (otB I t nn nt p) n else 0)
  | 0 => by simp [cnB]
  | n + 1 => by
    have ih := alB_sum (I := I) (t := t) (nn := nn) (nt := nt) (p := p) (h := h) (x := x) n
    simp only [cnB]
    rw [ih]
    by_cases c1 : fitB I t nn nt n = true
    · by_cases c2 : cdO n = p
      · have e1 : alB I t nn nt p h x n = alO I t nn nt p h x n := by unfold alB alO; simp [c2]
        have e2 : otB I t nn nt p n = false := by unfold otB; simp [c2]
        rw [e1, e2]
        simp only [Bool.false_eq_true, if_false]
        split <;> omega
      · have e1 : alO I t nn nt p h x n = false := by unfold alO; simp [c2]
        have e2 : otB I t nn nt p n = true := by unfold otB; simp [c2, c1]
        have e3 : trW I t n h p = wtS (pW I (tqS I t h)) p := trW_plain (fitB_t.mp c1).1.2.2.2.2.2.2 c2
        rw [e1, e2]
        unfold alB
        rw [e3, c1]
        by_cases c3 : x = hft (wtS (pW I (tqS I t h)) p)
        · rw [if_pos c3, if_pos c3]
          simp [c3]
          omega
        · rw [if_neg c3, if_neg c3, decide_eq_false (fun z => c3 (Eq.symm z))]
          simp
    · have e1 : alB I t nn nt p h x n = false := by unfold alB; simp [c1]
      have e2 : otB I t nn nt p n = false := by unfold otB; simp [c1]
      have e3 : alO I t nn nt p h x n = false := by unfold alO; simp [c1]
      rw [e1, e2, e3]
      simp
def mxF (f : Nat → Int) : Nat → Int
  | 0 => 0
  | k + 1 => if f k ≤ mxF f k then mxF f k else f k
theorem mxF_cg {f g : Nat → Int} : ∀ n, (∀ j, j < n → f j = g j) → mxF f n = mxF g n
  | 0, _ => rfl
  | n + 1, h => by simp only [mxF]; rw [mxF_cg n (fun j hj => h j (by omega)), h n (by omega)]
/-- the best hour to ask, and how many are alike then at most -/
def bsF (m : Nat → Int) : Nat → Int × Int
  | 0 => (-1, 0)
  | h + 1 => if (bsF m h).1 = -1 ∨ m h < (bsF m h).2 then ((h : Int), m h) else bsF m h
noncomputable def mstF (I : jI) (t : jS) (nn : Nat) (nt : Nat → Nat → Int) (p h : Nat) : Int := mxF (fun x => (cnB (alB I t nn nt p h (x : Nat)) (1000 * I.np) : Nat)) 64
noncomputable def aFits (W : kW) (i : Int) : Int := if W.I.np = 0 ∨ i < -1 then -1 else if i = -1 then (fitN W.I W.t W.nn W.nt (1000 * W.I.np) : Nat) else fitC W.I W.t W.nn W.nt i (1000 * W.I.np)
noncomputable def aAsk (W : kW) (p : Int) : Int := if ¬ (0 ≤ p ∧ p < W.I.np) then -1 else if fitN W.I W.t W.nn W.nt (1000 * W.I.np) = 0 then -1 else (bsF (mstF W.I W.t W.nn W.nt p.toNat) 9).1
def seenOk (W : kW) (p n v : Int) : Prop := 0 ≤ p ∧ p < W.I.np ∧ 0 ≤ n ∧ n ≤ 8 ∧ 0 ≤ v ∧ v ≤ 9999 ∧ W.nn < 10
