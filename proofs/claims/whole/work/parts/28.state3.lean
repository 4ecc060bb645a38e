/-! STATES: the rest of their methods -/
section StateM3
variable {d : Nat} {M : jM} {Q : Option jV → jM → Prop} {a b : Nat}
theorem s_floats {p : Nat} (hd : 3 ≤ d) (hS : Shp M) (ha : isSt a = true) (hp : p < 8) (hb : 0 ≤ iv M (a + 6) p ∧ iv M (a + 6) p ≤ 99) (hw : 0 ≤ iv M a 7 ∧ iv M a 7 ≤ 9) (hm : ∀ j, j < 32 → 0 ≤ iv M (a + 5) j ∧ iv M (a + 5) j ≤ 134217728) (h : Q (some (vI (if wtF (iv M (a + 1)) (iv M (a + 5)) p (1000 * iv M (a + 6) p) 32 < 10000 * iv M a 7 then 1 else 0))) M) : Call d mX7_floats [vR a, vI (p : Int)] M Q := by
  obtain ⟨e, rfl⟩ := dd (d := d) (by omega)
  refine vs_floats ha (by omega) hS (s_weight (by omega) hS ha hp hb hm ⟨_, rfl, hS, ?_⟩)
  refine (congrArg (fun z => Q (some (vI z)) M) ?_).mp h
  rw [w64_id (z := 10000 * iv M a 7) ⟨by omega, by omega⟩]
  simp only [jcmp_ge]
  split <;> split <;> first | rfl | omega
theorem s_thoughtCount (hd : 2 ≤ d) (hS : Shp M) (ha : isSt a = true) (h : Q (some (vI (cntF (iv M (a + 1)) 32))) M) : Call d mX7_thoughtCount [vR a] M Q := by
  obtain ⟨e, rfl⟩ := dd (d := d) (by omega)
  refine vs_thoughtCount ha (by omega) hS ?_
  have key : ∀ (j i : Nat), i ≤ 32 → 32 - i = j → 0 ≤ cntF (iv M (a + 1)) i ∧ cntF (iv M (a + 1)) i ≤ i → Run (e + 1) mX7_thoughtCount 4 [some (vR a), some (vI (cntF (iv M (a + 1)) i)), some (vI (i : Int))] [] M Q := by
    intro j
    induction j with
    | zero =>
      intro i hi hj hc
      obtain rfl : i = 32 := by omega
      exact vs_thoughtCount_4 ha (by omega) hS ⟨fun _ => h, fun c => absurd c (by decide)⟩
    | succ j ih =>
      intro i hi hj hc
      have hi2 : i < 32 := by omega
      have ih1 := ih (i + 1) (by omega) (by omega)
      refine vs_thoughtCount_4 ha (by omega) hS ⟨fun c => absurd c (by omega), fun _ => ?_⟩
      rw [atv_n hi2, w32s (by omega)]
      simp only [cntF] at ih1
      by_cases c : iv M (a + 1) i = -1
      · rw [if_pos c] at ih1
        rw [if_neg (show ¬ (iv M (a + 1) i ≠ -1) from fun q => q c), Int.add_zero, w32_id (z := cntF (iv M (a + 1)) i) ⟨by omega, by omega⟩]
        exact ih1 (by omega)
      · rw [if_neg c] at ih1
        rw [if_pos (show iv M (a + 1) i ≠ -1 from c), w32_id (z := _ + _) ⟨by omega, by omega⟩]
        exact ih1 (by omega)
  exact key _ 0 (by decide) rfl (by simp [cntF])
theorem s_thoughtsOf {p : Int} (hd : 2 ≤ d) (hS : Shp M) (ha : isSt a = true) (h : Q (some (vI (ofF (iv M (a + 1)) p 32))) M) : Call d mX7_thoughtsOf [vR a, vI p] M Q := by
  obtain ⟨e, rfl⟩ := dd (d := d) (by omega)
  refine vs_thoughtsOf ha (by omega) hS ?_
  have key : ∀ (j i : Nat), i ≤ 32 → 32 - i = j → 0 ≤ ofF (iv M (a + 1)) p i ∧ ofF (iv M (a + 1)) p i ≤ i → Run (e + 1) mX7_thoughtsOf 4 [some (vR a), some (vI p), some (vI (ofF (iv M (a + 1)) p i)), some (vI (i : Int))] [] M Q := by
    intro j
    induction j with
    | zero =>
      intro i hi hj hc
      obtain rfl : i = 32 := by omega
      exact vs_thoughtsOf_4 ha (by omega) hS ⟨fun _ => h, fun c => absurd c (by decide)⟩
    | succ j ih =>
      intro i hi hj hc
      have hi2 : i < 32 := by omega
      have ih1 := ih (i + 1) (by omega) (by omega)
      refine vs_thoughtsOf_4 ha (by omega) hS ⟨fun c => absurd c (by omega), fun _ => ?_⟩
      rw [atv_n hi2, w32s (by omega)]
      simp only [ofF] at ih1
      by_cases c : iv M (a + 1) i = p
      · rw [if_pos c] at ih1
        rw [if_neg (by omega), w32_id (z := _ + _) ⟨by omega, by omega⟩]
        exact ih1 (by omega)
      · rw [if_neg c] at ih1
        rw [if_pos c, w32_id (z := _ + _) ⟨by omega, by omega⟩, Int.add_zero]
        exact ih1 (by omega)
  exact key _ 0 (by decide) rfl (by simp [ofF])
theorem s_oldestAge (hd : 2 ≤ d) (hS : Shp M) (ha : isSt a = true) (h : Q (some (vI (oldF (iv M (a + 1)) (iv M (a + 4)) 32))) M) : Call d mX7_oldestAge [vR a] M Q := by
  obtain ⟨e, rfl⟩ := dd (d := d) (by omega)
  refine vs_oldestAge ha (by omega) hS ?_
  have key : ∀ (j i : Nat), i ≤ 32 → 32 - i = j → Run (e + 1) mX7_oldestAge 4 [some (vR a), some (vI (oldF (iv M (a + 1)) (iv M (a + 4)) i)), some (vI (i : Int))] [] M Q := by
    intro j
    induction j with
    | zero =>
      intro i hi hj
      obtain rfl : i = 32 := by omega
      exact vs_oldestAge_4 ha (by omega) hS ⟨fun _ => h, fun c => absurd c (by decide)⟩
    | succ j ih =>
      intro i hi hj
      have hi2 : i < 32 := by omega
      have ih1 := ih (i + 1) (by omega) (by omega)
      simp only [oldF] at ih1
      refine vs_oldestAge_4 ha (by omega) hS ⟨fun c => absurd c (by omega), fun _ => ⟨fun c => ?_, fun c => ⟨fun c2 => ?_, fun c2 => ?_⟩⟩⟩
      · rw [atv_n hi2] at c
        rw [w32s (by omega)]
        rw [if_neg (fun q => q.1 c)] at ih1
        exact ih1
      · rw [atv_n hi2] at c2
        rw [w32s (by omega)]
        rw [if_neg (fun q => absurd q.2 (by omega))] at ih1
        exact ih1
      · rw [atv_n hi2] at c c2
        rw [w32s (by omega), atv_n hi2]
        rw [if_pos ⟨c, by omega⟩] at ih1
        exact ih1
  exact key _ 0 (by decide) rfl
theorem heavF_in {w m : Nat → Int} {p : Int} : ∀ n, -1 ≤ heavF w m p n ∧ heavF w m p n < n
  | 0 => by simp [heavF]
  | n + 1 => by
    have := heavF_in (w := w) (m := m) (p := p) n
    simp only [heavF]
    split <;> omega
theorem s_heaviest {p : Int} (hd : 2 ≤ d) (hS : Shp M) (ha : isSt a = true) (h : Q (some (vI (heavF (iv M (a + 1)) (iv M (a + 5)) p 32))) M) : Call d mX7_heaviestThoughtOf [vR a, vI p] M Q := by
  obtain ⟨e, rfl⟩ := dd (d := d) (by omega)
  refine vs_heaviest ha (by omega) hS ?_
  have key : ∀ (j i : Nat), i ≤ 32 → 32 - i = j → Run (e + 1) mX7_heaviestThoughtOf 4 [some (vR a), some (vI p), some (vI (heavF (iv M (a + 1)) (iv M (a + 5)) p i)), some (vI (i : Int))] [] M Q := by
    intro j
    induction j with
    | zero =>
      intro i hi hj
      obtain rfl : i = 32 := by omega
      exact vs_heaviest_4 ha (by omega) hS ⟨fun _ => h, fun c => absurd c (by decide)⟩
    | succ j ih =>
      intro i hi hj
      have hi2 : i < 32 := by omega
      have ih1 := ih (i + 1) (by omega) (by omega)
      have hb := heavF_in (w := iv M (a + 1)) (m := iv M (a + 5)) (p := p) i
      simp only [heavF] at ih1
      refine vs_heaviest_4 ha (by omega) hS ⟨fun c => absurd c (by omega), fun _ => ⟨fun c => ?_, fun c => ⟨fun c2 => ?_, fun c2 => ⟨fun c3 => ?_, fun c3 => ?_⟩⟩⟩⟩
      · rw [atv_n hi2] at c
        rw [w32s (by omega)]
        rw [if_neg (fun q => c q.1)] at ih1
        exact ih1
      · rw [atv_n hi2] at c
        rw [w32s (by omega)]
        rw [if_pos ⟨by omega, Or.inl c2⟩] at ih1
        exact ih1
      · rw [atv_n hi2] at c
        rw [atv_n hi2, atv_i ⟨by omega, by omega⟩] at c3
        rw [w32s (by omega)]
        rw [if_neg (fun q => by rcases q.2 with q | q; exact c2 q; omega)] at ih1
        exact ih1
      · rw [atv_n hi2] at c
        rw [atv_n hi2, atv_i ⟨by omega, by omega⟩] at c3
        rw [w32s (by omega)]
        rw [if_pos ⟨by omega, Or.inr (by omega)⟩] at ih1
        exact ih1
  exact key _ 0 (by decide) rfl
theorem four {q p : Nat} (hq : q < 8) (hp : p < 4) : w32 (w32 ((q : Int) * 4) + (p : Int)) = ((4 * q + p : Nat) : Int) := by
  rw [w32_id (z := (q : Int) * 4) ⟨by omega, by omega⟩, w32_id (z := (q : Int) * 4 + p) ⟨by omega, by omega⟩]
  omega
theorem s_thinksOf {q : Nat} {p : Int} (hd : 2 ≤ d) (hS : Shp M) (ha : isSt a = true) (hq : q < 8) (h : Q (some (vI (thkF (iv M (a + 1)) q p))) M) : Call d mX7_thinksOf [vR a, vI (q : Int), vI p] M Q := by
  obtain ⟨e, rfl⟩ := dd (d := d) (by omega)
  refine vs_thinksOf ha (by omega) hS ?_
  have key : ∀ (j i : Nat), i ≤ 4 → 4 - i = j → (∀ k, k < i → iv M (a + 1) (4 * q + k) ≠ p) → Run (e + 1) mX7_thinksOf 2 [some (vR a), some (vI (q : Int)), some (vI p), some (vI (i : Int))] [] M Q := by
    intro j
    induction j with
    | zero =>
      intro i hi hj hk
      obtain rfl : i = 4 := by omega
      refine vs_thinksOf_2 ha (by omega) hS ⟨fun _ => ?_, fun c => absurd c (by decide)⟩
      unfold thkF at h
      rw [if_neg (by
        have := hk 0 (by decide); have := hk 1 (by decide); have := hk 2 (by decide); have := hk 3 (by decide)
        rintro (q | q | q | q) <;> contradiction)] at h
      exact h
    | succ j ih =>
      intro i hi hj hk
      have hi4 : i < 4 := by omega
      refine vs_thinksOf_2 ha (by omega) hS ⟨fun c => absurd c (by omega), fun _ => ⟨fun c => ?_, fun c => ?_⟩⟩
      · rw [four hq hi4, atv_n (by omega)] at c
        rw [w32s (by omega)]
        refine ih (i + 1) (by omega) (by omega) (fun k hk2 => ?_)
        by_cases hki : k = i
        · subst hki; exact c
        · exact hk k (by omega)
      · rw [four hq hi4, atv_n (by omega)] at c
        have c' : iv M (a + 1) (4 * q + i) = p := by simpa using c
        unfold thkF at h
        rw [if_pos (by
          have : i = 0 ∨ i = 1 ∨ i = 2 ∨ i = 3 := by omega
          rcases this with rfl | rfl | rfl | rfl
          · exact Or.inl c'
          · exact Or.inr (Or.inl c')
          · exact Or.inr (Or.inr (Or.inl c'))
          · exact Or.inr (Or.inr (Or.inr c')))] at h
        exact h
  exact key _ 0 (by decide) rfl (fun k hk => by omega)
theorem s_giveUpAll {q : Nat} {w : Int} (hd : 2 ≤ d) (hS : Shp M) (ha : isSt a = true) (hq : q < 8) (h : Q none (wi M (fGive M a q w))) : Call d mX7_giveUpAll [vR a, vI (q : Int), vI w] M Q := by
  obtain ⟨e, rfl⟩ := dd (d := d) (by omega)
  refine vs_giveUpAll ha (by omega) hS ?_
  have key : ∀ (j i : Nat), i ≤ 4 → 4 - i = j → Run (e + 1) mX7_giveUpAll 2 [some (vR a), some (vI (q : Int)), some (vI w), some (vI (i : Int))] [] (wi M (fun r k => if r = a + 1 ∧ 4 * q ≤ k ∧ k < 4 * q + i ∧ iv M (a + 1) k = w then -1 else iv M r k)) Q := by
    intro j
    induction j with
    | zero =>
      intro i hi hj
      obtain rfl : i = 4 := by omega
      exact vs_giveUpAll_2 ha (by omega) hS.wi ⟨fun _ => h, fun c => absurd c (by decide)⟩
    | succ j ih =>
      intro i hi hj
      have hi4 : i < 4 := by omega
      have ih1 := ih (i + 1) (by omega) (by omega)
      have m1 : iv (wi M (fun r k => if r = a + 1 ∧ 4 * q ≤ k ∧ k < 4 * q + i ∧ iv M (a + 1) k = w then -1 else iv M r k)) (a + 1) (4 * q + i) = iv M (a + 1) (4 * q + i) := by rw [iv_wi]; exact if_neg (by omega)
      refine vs_giveUpAll_2 ha (by omega) hS.wi ⟨fun c => absurd c (by omega), fun _ => ⟨fun c => ?_, fun c => ?_⟩⟩
      · rw [four hq hi4, atv_n (by omega), m1] at c
        rw [w32s (by omega)]
        refine (congrArg (fun f => Run (e + 1) mX7_giveUpAll 2 [some (vR a), some (vI (q : Int)), some (vI w), some (vI ((i + 1 : Nat) : Int))] [] f Q) (wi_eq ?_)).mp ih1
        intro r k
        by_cases hk : k = 4 * q + i
        · subst hk
          simp [c]
        · have : (4 * q ≤ k ∧ k < 4 * q + (i + 1) ∧ iv M (a + 1) k = w) ↔ (4 * q ≤ k ∧ k < 4 * q + i ∧ iv M (a + 1) k = w) := by constructor <;> (rintro ⟨x, y, z⟩; exact ⟨x, by omega, z⟩)
          simp only [this]
      · rw [four hq hi4, atv_n (by omega), m1] at c
        have c' : iv M (a + 1) (4 * q + i) = w := by simpa using c
        rw [four hq hi4, w32s (by omega), ptv_n (by omega), wi_wi, iv_wi]
        refine (congrArg (fun f => Run (e + 1) mX7_giveUpAll 2 [some (vR a), some (vI (q : Int)), some (vI w), some (vI ((i + 1 : Nat) : Int))] [] f Q) (wi_eq ?_)).mp ih1
        intro r k
        by_cases hk : k = 4 * q + i
        · subst hk
          by_cases hr : r = a + 1
          · simp [hr, c']
          · simp [hr]
        · have : (4 * q ≤ k ∧ k < 4 * q + (i + 1) ∧ iv M (a + 1) k = w) ↔ (4 * q ≤ k ∧ k < 4 * q + i ∧ iv M (a + 1) k = w) := by constructor <;> (rintro ⟨x, y, z⟩; exact ⟨x, by omega, z⟩)
          simp only [this, hk, and_false, if_false]
  have h0 : (wi M (fun r k => if r = a + 1 ∧ 4 * q ≤ k ∧ k < 4 * q + 0 ∧ iv M (a + 1) k = w then -1 else iv M r k)) = M := by
    refine (wi_eq (g := iv M) ?_).trans wi_self
    intro r k
    rw [if_neg (by omega)]
  have := key _ 0 (by decide) rfl
  rw [h0] at this
  exact this
theorem s_renewTunesOf {w : Int} (hd : 2 ≤ d) (hS : Shp M) (ha : isSt a = true) (h : Q none (wi M (fRenew M a w 32))) : Call d mX7_renewTunesOf [vR a, vI w] M Q := by
  obtain ⟨e, rfl⟩ := dd (d := d) (by omega)
  refine vs_renewTunesOf ha (by omega) hS ?_
  have key : ∀ (j i : Nat), i ≤ 32 → 32 - i = j → Run (e + 1) mX7_renewTunesOf 2 [some (vR a), some (vI w), some (vI (i : Int))] [] (wi M (fRenew M a w i)) Q := by
    intro j
    induction j with
    | zero =>
      intro i hi hj
      obtain rfl : i = 32 := by omega
      exact vs_renewTunesOf_2 ha (by omega) hS.wi ⟨fun _ => h, fun c => absurd c (by decide)⟩
    | succ j ih =>
      intro i hi hj
      have hi2 : i < 32 := by omega
      have ih1 := ih (i + 1) (by omega) (by omega)
      have m1 : iv (wi M (fRenew M a w i)) (a + 1) i = iv M (a + 1) i := by rw [iv_wi]; unfold fRenew; exact if_neg (by omega)
      have m2 : iv (wi M (fRenew M a w i)) (a + 2) i = iv M (a + 2) i := by rw [iv_wi]; unfold fRenew; exact if_neg (by omega)
      have same : ∀ (_ : ¬ (iv M (a + 1) i = w ∧ iv M (a + 2) i = 2)), Run (e + 1) mX7_renewTunesOf 2 [some (vR a), some (vI w), some (vI ((i + 1 : Nat) : Int))] [] (wi M (fRenew M a w i)) Q := by
        intro hn
        refine (congrArg (fun f => Run (e + 1) mX7_renewTunesOf 2 [some (vR a), some (vI w), some (vI ((i + 1 : Nat) : Int))] [] f Q) (wi_eq ?_)).mp ih1
        intro r k
        unfold fRenew
        by_cases hk : k = i
        · subst hk
          simp [hn]
        · have : k < i + 1 ↔ k < i := by omega
          simp only [this]
      refine vs_renewTunesOf_2 ha (by omega) hS.wi ⟨fun c => absurd c (by omega), fun _ => ⟨fun c => ?_, fun c => ⟨fun c2 => ?_, fun c2 => ?_⟩⟩⟩
      · rw [atv_n hi2, m1] at c
        rw [w32s (by omega)]
        exact same (fun q => c q.1)
      · rw [atv_n hi2, m2] at c2
        rw [w32s (by omega)]
        exact same (fun q => c2 q.2)
      · rw [atv_n hi2, m1] at c
        rw [atv_n hi2, m2] at c2
        have c' : iv M (a + 1) i = w := by simpa using c
        have c2' : iv M (a + 2) i = 2 := by simpa using c2
        rw [w32s (by omega), ptv_n hi2, wi_wi, iv_wi]
        refine (congrArg (fun f => Run (e + 1) mX7_renewTunesOf 2 [some (vR a), some (vI w), some (vI ((i + 1 : Nat) : Int))] [] f Q) (wi_eq ?_)).mp ih1
        intro r k
        unfold fRenew
        by_cases hk : k = i
        · subst hk
          by_cases hr : r = a + 4
          · simp [hr, c', c2']
          · simp [hr]
        · have : k < i + 1 ↔ k < i := by omega
          simp only [this, hk, and_false, if_false]
  have h0 : wi M (fRenew M a w 0) = M := by
    refine (wi_eq (g := iv M) ?_).trans wi_self
    intro r k
    unfold fRenew
    rw [if_neg (by omega)]
  have := key _ 0 (by decide) rfl
  rw [h0] at this
  exact this
theorem s_logLength (hd : 2 ≤ d) (hS : Shp M) (ha : isSt a = true) (h : Q (some (vI (if (60 : Int) ≤ iv M a 9 then 60 else iv M a 9))) M) : Call d mX7_logLength [vR a] M Q := by
  obtain ⟨e, rfl⟩ := dd (d := d) (by omega)
  exact vs_logLength ha (by omega) hS h
end StateM3
