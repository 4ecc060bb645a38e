/-! AN ISLAND told: the world then -/
def thY (Y : jY) : Nat → Int := fun x => Y.th (x / 4) (x % 4)
theorem thY_at {Y : jY} {k c : Nat} (hc : c < 4) : thY Y (4 * k + c) = Y.th k c := by
  unfold thY
  rw [show (4 * k + c) / 4 = k by omega, show (4 * k + c) % 4 = c by omega]
theorem thY_0 {Y : jY} {k : Nat} : thY Y (4 * k) = Y.th k 0 := thY_at (c := 0) (by decide)
theorem tlF_1 {th : Nat → Int} {s s' : jS} (h : s 1 = s' 1) : ∀ k, tlF th k s 1 = tlF th k s' 1
  | 0 => h
  | k + 1 => by
    have ih := tlF_1 (th := th) h k
    funext i
    simp only [tlF]
    rw [ih]
    unfold pLay
    rw [ih]
theorem tlF_p {th : Nat → Int} {s s' : jS} (h : s 1 = s' 1) (he : ∀ i, s 1 i = -1) : ∀ k j, tlF th k s 1 j ≠ -1 → tlF th k s 2 j = tlF th k s' 2 j ∧ tlF th k s 3 j = tlF th k s' 3 j ∧ tlF th k s 4 j = tlF th k s' 4 j
  | 0, j, hj => absurd (he j) hj
  | k + 1, j, hj => by
    have e := tlF_1 (th := th) h k
    have ih := tlF_p (th := th) h he k j
    simp only [tlF] at hj ⊢
    rw [← e]
    by_cases c : j = 4 * (th (4 * k)).toNat + (fE (tlF th k s 1) (th (4 * k)).toNat).toNat
    · rw [c, pLay_2, pLay_2, pLay_3, pLay_3, pLay_4, pLay_4]
      exact ⟨rfl, rfl, rfl⟩
    · rw [pLay_o (Or.inl c)] at hj
      rw [pLay_o (Or.inl c), pLay_o (Or.inl c), pLay_o (Or.inl c), pLay_o (Or.inl c), pLay_o (Or.inl c), pLay_o (Or.inl c)]
      exact ih hj
theorem tlF_th {th th' : Nat → Int} {s : jS} : ∀ k, (∀ x, x < 4 * k → th x = th' x) → tlF th k s = tlF th' k s
  | 0, _ => rfl
  | k + 1, h => by
    simp only [tlF]
    rw [tlF_th k (fun x hx => h x (by omega)), h (4 * k) (by omega), h (4 * k + 1) (by omega), h (4 * k + 2) (by omega), h (4 * k + 3) (by omega)]
theorem fE_slot {f : Nat → Int} {w : Nat} {a : Int} (ha : 0 ≤ a) (h : ∀ j, j < 4 → (f (4 * w + j) = -1 ↔ a ≤ (j : Int))) : fE f w = if a < 4 then a else -1 := by
  have h0 := h 0 (by decide)
  have h1 := h 1 (by decide)
  have h2 := h 2 (by decide)
  have h3 := h 3 (by decide)
  rw [Nat.add_zero] at h0
  unfold fE
  by_cases c0 : a ≤ ((0 : Nat) : Int)
  · rw [if_pos (h0.mpr c0), if_pos (by omega)]; omega
  · rw [if_neg (fun z => c0 (h0.mp z))]
    by_cases c1 : a ≤ ((1 : Nat) : Int)
    · rw [if_pos (h1.mpr c1), if_pos (by omega)]; omega
    · rw [if_neg (fun z => c1 (h1.mp z))]
      by_cases c2 : a ≤ ((2 : Nat) : Int)
      · rw [if_pos (h2.mpr c2), if_pos (by omega)]; omega
      · rw [if_neg (fun z => c2 (h2.mp z))]
        by_cases c3 : a ≤ ((3 : Nat) : Int)
        · rw [if_pos (h3.mpr c3), if_pos (by omega)]; omega
        · rw [if_neg (fun z => c3 (h3.mp z)), if_neg (by omega)]
section Isl5
variable {Y : jY} {s : jS}
theorem slot (hY : okYr Y) (ok : okY Y) (hs : ∀ i, s 1 i = -1) : ∀ k, k ≤ Y.nt → ∀ w j, w < 8 → j < 4 → (tlF (thY Y) k s 1 (4 * w + j) = -1 ↔ ahF (fun i => Y.th i 0) (w : Int) k ≤ (j : Int))
  | 0, _, w, j, hw, hj => ⟨fun _ => by show (0 : Int) ≤ j; omega, fun _ => hs _⟩
  | k + 1, hk, w, j, hw, hj => by
    obtain ⟨g1, g2, g3, g4, g5⟩ := ok.2 k (by omega)
    have o0 := hY.2.2.1 k (by omega) 0 (by decide)
    have o1 := hY.2.2.1 k (by omega) 1 (by decide)
    have w0 : 0 ≤ Y.th k 0 ∧ Y.th k 0 ≤ 7 := o0
    have w1 : 0 ≤ Y.th k 1 ∧ Y.th k 1 ≤ 7 := o1
    clear o0 o1
    obtain ⟨p, hp⟩ : ∃ p : Nat, Y.th k 0 = (p : Int) := ⟨(Y.th k 0).toNat, by omega⟩
    have hin := ahF_in (w := fun i => Y.th i 0) (x := (p : Int)) k
    have ih := slot hY ok hs k (by omega)
    have fe := fE_slot (f := tlF (thY Y) k s 1) (w := p) hin.1 (fun j hj => ih p j (by omega) hj)
    rw [hp] at g5
    rw [if_pos g5] at fe
    obtain ⟨a, ha⟩ : ∃ a : Nat, ahF (fun i => Y.th i 0) (p : Int) k = (a : Int) := ⟨(ahF (fun i => Y.th i 0) (p : Int) k).toNat, by omega⟩
    rw [ha] at fe g5
    have ihw := ih w j hw hj
    simp only [tlF, ahF]
    have eT : (Y.th k 0).toNat = p := by omega
    rw [thY_0, eT, fe, Int.toNat_natCast, thY_at (c := 1) (by decide)]
    by_cases c : w = p
    · subst c
      rw [if_pos hp, ha]
      rw [ha] at ihw
      by_cases cj : j = a
      · rw [cj, pLay_1]
        exact ⟨fun z => by omega, fun z => by omega⟩
      · rw [pLay_o (Or.inl (by omega))]
        exact ihw.trans ⟨fun z => by omega, fun z => by omega⟩
    · rw [if_neg (by omega), pLay_o (Or.inl (by omega))]
      exact ihw
theorem fE_ah (hY : okYr Y) (ok : okY Y) (hs : ∀ i, s 1 i = -1) {k : Nat} (hk : k < Y.nt) : fE (tlF (thY Y) k s 1) (Y.th k 0).toNat = ahF (fun i => Y.th i 0) (Y.th k 0) k ∧ 0 ≤ ahF (fun i => Y.th i 0) (Y.th k 0) k ∧ ahF (fun i => Y.th i 0) (Y.th k 0) k < 4 := by
  obtain ⟨g1, g2, g3, g4, g5⟩ := ok.2 k hk
  have o0 := hY.2.2.1 k hk 0 (by decide)
  have w0 : 0 ≤ Y.th k 0 ∧ Y.th k 0 ≤ 7 := o0
  clear o0
  obtain ⟨p, hp⟩ : ∃ p : Nat, Y.th k 0 = (p : Int) := ⟨(Y.th k 0).toNat, by omega⟩
  have hin := ahF_in (w := fun i => Y.th i 0) (x := Y.th k 0) k
  refine ⟨?_, hin.1, g5⟩
  rw [hp] at g5 hin ⊢
  rw [Int.toNat_natCast, fE_slot (f := tlF (thY Y) k s 1) (w := p) hin.1 (fun j hj => slot hY ok hs k (by omega) p j (by omega) hj), if_pos g5]
theorem tl_rng (hY : okYr Y) (ok : okY Y) (hs : ∀ i, s 1 i = -1) (hr : ∀ i, i < 32 → 0 ≤ s 2 i ∧ s 2 i ≤ 2 ∧ 0 ≤ s 3 i ∧ s 3 i ≤ 9 ∧ 0 ≤ s 4 i ∧ s 4 i ≤ 99) : ∀ k, k ≤ Y.nt → ∀ i, i < 32 → (-1 ≤ tlF (thY Y) k s 1 i ∧ tlF (thY Y) k s 1 i < Y.np ∧ 0 ≤ tlF (thY Y) k s 2 i ∧ tlF (thY Y) k s 2 i ≤ 2 ∧ 0 ≤ tlF (thY Y) k s 3 i ∧ tlF (thY Y) k s 3 i ≤ 9 ∧ 0 ≤ tlF (thY Y) k s 4 i ∧ tlF (thY Y) k s 4 i ≤ 99) ∧ (4 * Y.np ≤ i → tlF (thY Y) k s 1 i = -1)
  | 0, _, i, hi => by
    have := hr i hi
    have e := hs i
    simp only [tlF]
    refine ⟨⟨by omega, by omega, this⟩, fun _ => e⟩
  | k + 1, hk, i, hi => by
    obtain ⟨g1, g2, g3, g4, g5⟩ := ok.2 k (by omega)
    have o0 := hY.2.2.1 k (by omega) 0 (by decide)
    have o1 := hY.2.2.1 k (by omega) 1 (by decide)
    have o2 := hY.2.2.1 k (by omega) 2 (by decide)
    have o3 := hY.2.2.1 k (by omega) 3 (by decide)
    have w0 : 0 ≤ Y.th k 0 ∧ Y.th k 0 ≤ 7 := o0
    have w1 : 0 ≤ Y.th k 1 ∧ Y.th k 1 ≤ 7 := o1
    have w2 : 0 ≤ Y.th k 2 ∧ Y.th k 2 ≤ 2 := o2
    have w3 : 1 ≤ Y.th k 3 ∧ Y.th k 3 ≤ 9 := o3
    clear o0 o1 o2 o3
    obtain ⟨f1, f2, f3⟩ := fE_ah hY ok hs (show k < Y.nt by omega)
    have ih := tl_rng hY ok hs hr k (by omega) i hi
    simp only [tlF]
    rw [thY_0, f1, thY_at (c := 1) (by decide), thY_at (c := 2) (by decide), thY_at (c := 3) (by decide)]
    by_cases c : i = 4 * (Y.th k 0).toNat + (ahF (fun i => Y.th i 0) (Y.th k 0) k).toNat
    · rw [← c, pLay_1, pLay_2, pLay_3, pLay_4]
      refine ⟨⟨by omega, by omega, by omega, by omega, by omega, by omega, by omega, by omega⟩, fun z => by omega⟩
    · rw [pLay_o (Or.inl c), pLay_o (Or.inl c), pLay_o (Or.inl c), pLay_o (Or.inl c)]
      exact ih
theorem tl_ok (hY : okYr Y) (ok : okY Y) {b : Nat → Int} {w : Int} {th : Nat → Int} (hth : ∀ k c, k < Y.nt → c < 4 → th (4 * k + c) = Y.th k c) : tlOk th b w Y.np Y.nt := by
  refine ⟨hY.2.2.2.2, fun k hk => ?_⟩
  obtain ⟨g1, g2, g3, g4, g5⟩ := ok.2 k hk
  have o0 := hY.2.2.1 k hk 0 (by decide)
  have o1 := hY.2.2.1 k hk 1 (by decide)
  have o2 := hY.2.2.1 k hk 2 (by decide)
  have o3 := hY.2.2.1 k hk 3 (by decide)
  have w0 : 0 ≤ Y.th k 0 ∧ Y.th k 0 ≤ 7 := o0
  have w1 : 0 ≤ Y.th k 1 ∧ Y.th k 1 ≤ 7 := o1
  have w2 : 0 ≤ Y.th k 2 ∧ Y.th k 2 ≤ 2 := o2
  have w3 : 1 ≤ Y.th k 3 ∧ Y.th k 3 ≤ 9 := o3
  have h0 := hth k 0 hk (by decide)
  rw [Nat.add_zero] at h0
  rw [h0, hth k 1 hk (by decide), hth k 2 hk (by decide), hth k 3 hk (by decide)]
  have e : tlF th k (tl0 b w) = tlF (thY Y) k (tl0 b w) := tlF_th k (fun x hx => by
    have := hth (x / 4) (x % 4) (by omega) (by omega)
    rw [show 4 * (x / 4) + x % 4 = x by omega] at this
    rw [this]
    rfl)
  obtain ⟨f1, f2, f3⟩ := fE_ah hY ok (s := tl0 b w) (fun i => rfl) hk
  rw [e, f1]
  exact ⟨w0.1, g1, w1.1, g2, w2.1, w2.2, w3.1, w3.2, by omega⟩
end Isl5
/-- the world after an island's text: where the class keeps what no one sees, it is as the class has it -/
def Txt (Y : jY) (W W' : kW) : Prop := ∃ (dp mi : Nat → Int) (t : jS), W' = ((Y.np, dp, mi, W.I.lw, Y.rl 1, Y.rl 2), (t, 0, W.P), t, none, (0, W.nt), (0, W.tb), W.rf, W.me, (W.lc, W.lh), W.lw) ∧
  (∀ p, p < 8 → 0 ≤ dp p ∧ dp p ≤ 99 ∧ 0 ≤ mi p ∧ mi p ≤ 2) ∧ (∀ p, p < Y.np → dp p = Y.pr p 1 ∧ mi p = Y.pr p 2 ∧ t 6 p = Y.pr p 0) ∧ GS Y.np t ∧ t 0 7 = Y.rl 0 ∧ t 0 8 = Y.rl 3 ∧ t 0 9 = 0 ∧
  ∀ j, j < 32 → t 1 j = tlF (thY Y) Y.nt (tl0 (fun _ => 0) 0) 1 j ∧ (t 1 j ≠ -1 → t 2 j = tlF (thY Y) Y.nt (tl0 (fun _ => 0) 0) 2 j ∧ t 3 j = tlF (thY Y) Y.nt (tl0 (fun _ => 0) 0) 3 j ∧ t 4 j = 0)
theorem okTxt {Y : jY} {W W' : kW} (hY : okYr Y) (ok : okY Y) (hW : OKW W) (h : Txt Y W W') : OKW W' := by
  obtain ⟨dp, mi, t, rfl, h1, h2, h3, h4, h5, h6, h7⟩ := h
  obtain ⟨a1, a2, a3, a4, a5, a6, a7, a8, a9, a10, a11⟩ := hW
  have r1 : 1 ≤ Y.rl 1 ∧ Y.rl 1 ≤ 99 := hY.1 1 (by decide)
  have r2 : 1 ≤ Y.rl 2 ∧ Y.rl 2 ≤ 99 := hY.1 2 (by decide)
  have n2 := ok.1
  refine ⟨⟨hY.2.2.2.1, fun p hp => ⟨(h1 p hp).1, (h1 p hp).2.1⟩, fun p hp => ⟨(h1 p hp).2.2.1, (h1 p hp).2.2.2⟩, ⟨by show 0 ≤ Y.rl 1; omega, r1.2⟩, ⟨by show 0 ≤ Y.rl 2; omega, r2.2⟩⟩, Or.inr n2, fun _ => ⟨h3, h3, h6⟩, fun z => absurd z (by show ¬ Y.np = 0; omega), ⟨Nat.zero_le _, fun k hk => absurd hk (Nat.not_lt_zero _)⟩, fun u hu => absurd (show (none : Option jS) = some u from hu) (by simp), ⟨Nat.zero_le _, fun k hk => absurd hk (Nat.not_lt_zero _)⟩, ⟨Nat.zero_le _, fun i hi => absurd hi (Nat.not_lt_zero _)⟩, a9, a10, a11⟩
