/-! the most of all: of both -/
def topF (v : Nat → Int) : Nat → Nat
  | 0 => 0
  | n + 1 => if v (topF v n) < v n then n else topF v n
theorem topF_lt {v : Nat → Int} : ∀ n, 0 < n → topF v n < n
  | 0, h => absurd h (Nat.lt_irrefl 0)
  | n + 1, _ => by
    simp only [topF]
    split
    · omega
    · rcases Nat.eq_zero_or_pos n with z | z
      · subst z; simp [topF]
      · have := topF_lt (v := v) n z; omega
theorem topF_s {v : Nat → Int} {n : Nat} : topF v (n + 1) = if v (topF v n) < v n then n else topF v n := rfl
theorem topF_1 {v : Nat → Int} : topF v 1 = 0 := by simp [topF]
def prB (s : jS) (i j : Nat) : Int := if thkF (s 1) i j = 0 then 0 else if thkF (s 1) j i = 0 then 0 else 1
theorem prB_s {s : jS} {i j : Nat} : prB s i j = prB s j i := by unfold prB; split <;> split <;> rfl
def prN (s : jS) (n : Nat) : Int := sumF (fun i => sumF (fun j => if i < j then prB s i j else 0) n) n
theorem prN_eq {s : jS} {n : Nat} : prN s n = sumF (fun p => sumF (fun o => prB s p o) p) n := by
  unfold prN
  rw [sumF_swap n n]
  refine sumF_cg n (fun p hp => ?_)
  have : sumF (fun i => if i < p then prB s i p else 0) n = sumF (fun i => prB s i p) (min n p) := sumF_lt (f := fun i => prB s i p) p n
  rw [this, show min n p = p by omega]
  exact sumF_cg p (fun o _ => prB_s)
theorem prB_in {s : jS} {i j : Nat} : 0 ≤ prB s i j ∧ prB s i j ≤ 1 := by unfold prB; split <;> (try split) <;> omega
theorem sum01 {f : Nat → Int} (h : ∀ j, 0 ≤ f j ∧ f j ≤ 1) : ∀ n, 0 ≤ sumF f n ∧ sumF f n ≤ n
  | 0 => by simp [sumF]
  | n + 1 => by have := sum01 h n; have := h n; simp only [sumF]; omega
theorem sum08 {f : Nat → Int} (h : ∀ j, 0 ≤ f j ∧ f j ≤ 8) : ∀ n, 0 ≤ sumF f n ∧ sumF f n ≤ 8 * (n : Int)
  | 0 => by simp [sumF]
  | n + 1 => by have := sum08 h n; have := h n; simp only [sumF]; omega
def aMost (W : kW) (w : Int) : Int :=
  if W.I.np = 0 then -1000000 else if w = 0 then (topF W.wt W.I.np : Nat) else if w = 1 then (topF (fun p => -W.wt p) W.I.np : Nat) else if w = 2 then (topF W.I.dp W.I.np : Nat) else if w = 3 then (topF (fun p => ofF (W.s 1) p 32) W.I.np : Nat) else if w = 4 then bitF (flS (pW W.I W.s)) W.I.np else if w = 5 then bitF (skS W.I (pW W.I W.s)) W.I.np else if w = 6 then bitF (fun p => decide (ofF (W.s 1) p 32 = 0)) W.I.np else if w = 7 then cntF (W.s 1) 32 else if w = 8 then bitF (fun p => decide (fE (W.s 1) p = -1)) W.I.np else if w = 9 then oldF (W.s 1) (W.s 4) 32 else if w = 10 then prN W.s W.I.np else -1000000
section MostX
variable {d : Nat} {M : jM} {Q : Option jV → jM → Prop} {W : kW}
theorem jor_sel {c : Nat → Bool} {i : Nat} (hi : i < 30) : jor (bitF c i) (if c i = true then jshl 1 (i : Int) else 0) = bitF c (i + 1) := by
  have hb := bitF_in (c := c) i
  have h30 : (2 : Nat) ^ i ≤ 2 ^ 29 := Nat.pow_le_pow_right (by decide) (by omega)
  have h29 : (2 : Nat) ^ 29 = 536870912 := by decide
  simp only [bitF]
  by_cases h : c i = true
  · rw [if_pos h, if_pos h, jor_bit hi hb]
  · rw [if_neg h, if_neg h, jor_0 ⟨hb.1, by omega⟩]
theorem X_heaviest (hd : 6 ≤ d) (hX : CX M W) (hok : OKW W) (hn : 2 ≤ W.I.np) (ha : SA M 33 (pW W.I W.s)) (h : Q (some (vI (topF W.wt W.I.np : Nat))) M) : Call d mX10_heaviest [vR 6] M Q := by
  obtain ⟨e, rfl⟩ := dd (d := d) (by omega)
  have hS := hX.shp
  have hn8 := hok.wi.1
  have sb : SB M 33 W.s := (hX.now.1 (by omega)).1
  refine vx_heaviest (by omega) hS ?_
  refine (congrArg (fun z => Run (e + 1) mX10_heaviest 4 [some (vR 6), some (vI z), some (vI 1)] [] M Q) (show (0 : Int) = ((topF W.wt (0 + 1) : Nat) : Int) by rw [topF_1]; rfl)).mpr ?_
  refine up_to (R := fun i => 0 < W.I.np - i → Run (e + 1) mX10_heaviest 4 [some (vR 6), some (vI (topF W.wt (i + 1) : Nat)), some (vI ((i + 1 : Nat) : Int))] [] M Q) (W.I.np - 1) ?_ ?_ (by omega)
  · intro _
    rw [show W.I.np - 1 + 1 = W.I.np by omega]
    exact vx_heaviest_4 (by omega) hS ⟨fun _ => h, fun c => absurd c (by rw [hX.np]; omega)⟩
  · intro i hi ih _
    have ih := ih (by omega)
    have ht := topF_lt (v := W.wt) (i + 1) (by omega)
    rw [topF_s (n := i + 1)] at ih
    refine vx_heaviest_4 (by omega) hS ⟨fun c => absurd c (by rw [hX.np]; omega), fun _ => X_weight (by omega) hX hok ha (by omega) ⟨_, rfl, hS, X_weight (by omega) hX hok ha (by omega) ⟨_, rfl, hS, ?_⟩⟩⟩
    rw [w32s (by omega)]
    refine (congrArg (fun z => Run (e + 1) mX10_heaviest 4 [some (vR 6), some (vI z), some (vI ((i + 1 + 1 : Nat) : Int))] [] M Q) ?_).mp ih
    simp only [jcmp_le]
    split <;> split <;> first | rfl | omega
theorem X_lightest (hd : 6 ≤ d) (hX : CX M W) (hok : OKW W) (hn : 2 ≤ W.I.np) (ha : SA M 33 (pW W.I W.s)) (h : Q (some (vI (topF (fun p => -W.wt p) W.I.np : Nat))) M) : Call d mX10_lightest [vR 6] M Q := by
  obtain ⟨e, rfl⟩ := dd (d := d) (by omega)
  have hS := hX.shp
  have hn8 := hok.wi.1
  have sb : SB M 33 W.s := (hX.now.1 (by omega)).1
  refine vx_lightest (by omega) hS ?_
  refine (congrArg (fun z => Run (e + 1) mX10_lightest 4 [some (vR 6), some (vI z), some (vI 1)] [] M Q) (show (0 : Int) = ((topF (fun p => -W.wt p) (0 + 1) : Nat) : Int) by rw [topF_1]; rfl)).mpr ?_
  refine up_to (R := fun i => 0 < W.I.np - i → Run (e + 1) mX10_lightest 4 [some (vR 6), some (vI (topF (fun p => -W.wt p) (i + 1) : Nat)), some (vI ((i + 1 : Nat) : Int))] [] M Q) (W.I.np - 1) ?_ ?_ (by omega)
  · intro _
    rw [show W.I.np - 1 + 1 = W.I.np by omega]
    exact vx_lightest_4 (by omega) hS ⟨fun _ => h, fun c => absurd c (by rw [hX.np]; omega)⟩
  · intro i hi ih _
    have ih := ih (by omega)
    have ht := topF_lt (v := (fun p => -W.wt p)) (i + 1) (by omega)
    rw [topF_s (n := i + 1)] at ih
    refine vx_lightest_4 (by omega) hS ⟨fun c => absurd c (by rw [hX.np]; omega), fun _ => X_weight (by omega) hX hok ha (by omega) ⟨_, rfl, hS, X_weight (by omega) hX hok ha (by omega) ⟨_, rfl, hS, ?_⟩⟩⟩
    rw [w32s (by omega)]
    refine (congrArg (fun z => Run (e + 1) mX10_lightest 4 [some (vR 6), some (vI z), some (vI ((i + 1 + 1 : Nat) : Int))] [] M Q) ?_).mp ih
    simp only [jcmp_ge]
    split <;> split <;> first | rfl | omega
theorem X_deepest (hd : 6 ≤ d) (hX : CX M W) (hok : OKW W) (hn : 2 ≤ W.I.np) (ha : SA M 33 (pW W.I W.s)) (h : Q (some (vI (topF W.I.dp W.I.np : Nat))) M) : Call d mX10_deepest [vR 6] M Q := by
  obtain ⟨e, rfl⟩ := dd (d := d) (by omega)
  have hS := hX.shp
  have hn8 := hok.wi.1
  have sb : SB M 33 W.s := (hX.now.1 (by omega)).1
  refine vx_deepest (by omega) hS ?_
  refine (congrArg (fun z => Run (e + 1) mX10_deepest 4 [some (vR 6), some (vI z), some (vI 1)] [] M Q) (show (0 : Int) = ((topF W.I.dp (0 + 1) : Nat) : Int) by rw [topF_1]; rfl)).mpr ?_
  refine up_to (R := fun i => 0 < W.I.np - i → Run (e + 1) mX10_deepest 4 [some (vR 6), some (vI (topF W.I.dp (i + 1) : Nat)), some (vI ((i + 1 : Nat) : Int))] [] M Q) (W.I.np - 1) ?_ ?_ (by omega)
  · intro _
    rw [show W.I.np - 1 + 1 = W.I.np by omega]
    exact vx_deepest_4 (by omega) hS ⟨fun _ => h, fun c => absurd c (by rw [hX.np]; omega)⟩
  · intro i hi ih _
    have ih := ih (by omega)
    have ht := topF_lt (v := W.I.dp) (i + 1) (by omega)
    rw [topF_s (n := i + 1)] at ih
    refine vx_deepest_4 (by omega) hS ⟨fun c => absurd c (by rw [hX.np]; omega), fun _ => ?_⟩
    rw [atv_n (by omega), atv_n (by omega), hX.ia.2.2.2.1 (i + 1) (by omega), hX.ia.2.2.2.1 _ (by omega), w32s (by omega)]
    refine (congrArg (fun z => Run (e + 1) mX10_deepest 4 [some (vR 6), some (vI z), some (vI ((i + 1 + 1 : Nat) : Int))] [] M Q) ?_).mp ih
    split <;> split <;> first | rfl | omega
theorem X_mostThoughtOf (hd : 6 ≤ d) (hX : CX M W) (hok : OKW W) (hn : 2 ≤ W.I.np) (ha : SA M 33 (pW W.I W.s)) (h : Q (some (vI (topF (fun p => ofF (W.s 1) p 32) W.I.np : Nat))) M) : Call d mX10_mostThoughtOf [vR 6] M Q := by
  obtain ⟨e, rfl⟩ := dd (d := d) (by omega)
  have hS := hX.shp
  have hn8 := hok.wi.1
  have sb : SB M 33 W.s := (hX.now.1 (by omega)).1
  refine vx_mostThoughtOf (by omega) hS ?_
  refine (congrArg (fun z => Run (e + 1) mX10_mostThoughtOf 4 [some (vR 6), some (vI z), some (vI 1)] [] M Q) (show (0 : Int) = ((topF (fun p => ofF (W.s 1) p 32) (0 + 1) : Nat) : Int) by rw [topF_1]; rfl)).mpr ?_
  refine up_to (R := fun i => 0 < W.I.np - i → Run (e + 1) mX10_mostThoughtOf 4 [some (vR 6), some (vI (topF (fun p => ofF (W.s 1) p 32) (i + 1) : Nat)), some (vI ((i + 1 : Nat) : Int))] [] M Q) (W.I.np - 1) ?_ ?_ (by omega)
  · intro _
    rw [show W.I.np - 1 + 1 = W.I.np by omega]
    exact vx_mostThoughtOf_4 (by omega) hS ⟨fun _ => h, fun c => absurd c (by rw [hX.np]; omega)⟩
  · intro i hi ih _
    have ih := ih (by omega)
    have ht := topF_lt (v := (fun p => ofF (W.s 1) p 32)) (i + 1) (by omega)
    rw [topF_s (n := i + 1)] at ih
    refine vx_mostThoughtOf_4 (by omega) hS ⟨fun c => absurd c (by rw [hX.np]; omega), fun _ => t_thoughtsOf (by omega) hS (by decide) ha ⟨_, rfl, hS, t_thoughtsOf (by omega) hS (by decide) ha ⟨_, rfl, hS, ?_⟩⟩⟩
    rw [w32s (by omega)]
    refine (congrArg (fun z => Run (e + 1) mX10_mostThoughtOf 4 [some (vR 6), some (vI z), some (vI ((i + 1 + 1 : Nat) : Int))] [] M Q) ?_).mp ih
    have e1 : pW W.I W.s 1 = W.s 1 := rfl
    rw [e1]
    split <;> split <;> first | rfl | omega
theorem X_nobodys (hd : 6 ≤ d) (hX : CX M W) (hok : OKW W) (hn : 2 ≤ W.I.np) (ha : SA M 33 (pW W.I W.s)) (h : Q (some (vI (bitF (fun p => decide (ofF (W.s 1) p 32 = 0)) W.I.np))) M) : Call d mX10_nobodys [vR 6] M Q := by
  obtain ⟨e, rfl⟩ := dd (d := d) (by omega)
  have hS := hX.shp
  have hn8 := hok.wi.1
  refine vx_nobodys (by omega) hS ?_
  refine up_to (R := fun i => Run (e + 1) mX10_nobodys 4 [some (vR 6), some (vI (bitF (fun p => decide (ofF (W.s 1) p 32 = 0)) i)), some (vI (i : Int))] [] M Q) W.I.np ?_ ?_
  · exact vx_nobodys_4 (by omega) hS ⟨fun _ => h, fun c => absurd c (by rw [hX.np]; omega)⟩
  · intro i hi ih
    refine vx_nobodys_4 (by omega) hS ⟨fun c => absurd c (by rw [hX.np]; omega), fun _ => t_thoughtsOf (by omega) hS (by decide) ha ⟨_, rfl, hS, ?_⟩⟩
    have e1 : pW W.I W.s 1 = W.s 1 := rfl
    rw [w32s (by omega), e1]
    rw [← jor_sel (by omega)] at ih
    refine (congrArg (fun z => Run (e + 1) mX10_nobodys 4 [some (vR 6), some (vI (jor (bitF (fun p => decide (ofF (W.s 1) p 32 = 0)) i) z)), some (vI ((i + 1 : Nat) : Int))] [] M Q) ?_).mp ih
    simp only [decide_eq_true_eq]
    by_cases c : ofF (W.s 1) (i : Nat) 32 = 0 <;> simp [c]
theorem X_fullMinds (hd : 6 ≤ d) (hX : CX M W) (hok : OKW W) (hn : 2 ≤ W.I.np) (ha : SA M 33 (pW W.I W.s)) (h : Q (some (vI (bitF (fun p => decide (fE (W.s 1) p = -1)) W.I.np))) M) : Call d mX10_fullMinds [vR 6] M Q := by
  obtain ⟨e, rfl⟩ := dd (d := d) (by omega)
  have hS := hX.shp
  have hn8 := hok.wi.1
  refine vx_fullMinds (by omega) hS ?_
  refine up_to (R := fun i => Run (e + 1) mX10_fullMinds 4 [some (vR 6), some (vI (bitF (fun p => decide (fE (W.s 1) p = -1)) i)), some (vI (i : Int))] [] M Q) W.I.np ?_ ?_
  · exact vx_fullMinds_4 (by omega) hS ⟨fun _ => h, fun c => absurd c (by rw [hX.np]; omega)⟩
  · intro i hi ih
    refine vx_fullMinds_4 (by omega) hS ⟨fun c => absurd c (by rw [hX.np]; omega), fun _ => t_emptyPlace (by omega) hS (by decide) ha (by omega) ⟨_, rfl, hS, ?_⟩⟩
    have e1 : pW W.I W.s 1 = W.s 1 := rfl
    rw [w32s (by omega), e1]
    rw [← jor_sel (by omega)] at ih
    refine (congrArg (fun z => Run (e + 1) mX10_fullMinds 4 [some (vR 6), some (vI (jor (bitF (fun p => decide (fE (W.s 1) p = -1)) i) z)), some (vI ((i + 1 : Nat) : Int))] [] M Q) ?_).mp ih
    simp only [decide_eq_true_eq]
    by_cases c : fE (W.s 1) i = -1 <;> simp [c]
theorem thk_01 {w : Nat → Int} {q : Nat} {p : Int} : thkF w q p = 0 ∨ thkF w q p = 1 := by unfold thkF; split <;> simp
theorem sumZ {f : Nat → Int} : ∀ n, (∀ j, j < n → f j = 0) → sumF f n = 0
  | 0, _ => rfl
  | n + 1, h => by simp only [sumF]; rw [sumZ n (fun j hj => h j (by omega)), h n (by omega)]; rfl
theorem X_pairs (hd : 6 ≤ d) (hX : CX M W) (hok : OKW W) (hn : 2 ≤ W.I.np) (ha : SA M 33 (pW W.I W.s)) (h : Q (some (vI (prN W.s W.I.np))) M) : Call d mX10_pairs [vR 6] M Q := by
  obtain ⟨e, rfl⟩ := dd (d := d) (by omega)
  have hS := hX.shp
  have hn8 := hok.wi.1
  unfold prN at h
  have in8 : ∀ i n, n ≤ 8 → 0 ≤ sumF (fun j => if i < j then prB W.s i j else 0) n ∧ sumF (fun j => if i < j then prB W.s i j else 0) n ≤ 8 := by
    intro i n hn
    have := sum01 (f := fun j => if i < j then prB W.s i j else 0) (fun j => by
      show 0 ≤ (if i < j then prB W.s i j else 0) ∧ (if i < j then prB W.s i j else 0) ≤ 1
      by_cases c : i < j
      · rw [if_pos c]; exact prB_in
      · rw [if_neg c]; omega) n
    omega
  have inS : ∀ i, i ≤ 8 → 0 ≤ sumF (fun i => sumF (fun j => if i < j then prB W.s i j else 0) W.I.np) i ∧ sumF (fun i => sumF (fun j => if i < j then prB W.s i j else 0) W.I.np) i ≤ 64 := by
    intro i hi
    have := sum08 (f := fun i => sumF (fun j => if i < j then prB W.s i j else 0) W.I.np) (fun j => in8 j _ hn8) i
    omega
  refine vx_pairs (by omega) hS ?_
  refine up_to (R := fun i => ∀ l3, Run (e + 1) mX10_pairs 4 [some (vR 6), some (vI (sumF (fun i => sumF (fun j => if i < j then prB W.s i j else 0) W.I.np) i)), some (vI (i : Int)), l3] [] M Q) W.I.np ?_ ?_ _
  · intro l3
    exact vx_pairs_4 (by omega) hS ⟨fun _ => h, fun c => absurd c (by rw [hX.np]; omega)⟩
  · intro i hi ih l3
    simp only [sumF] at ih
    have b1 := inS i (by omega)
    refine vx_pairs_4 (by omega) hS ⟨fun c => absurd c (by rw [hX.np]; omega), fun _ => ?_⟩
    rw [w32s (by omega)]
    have inner : ∀ (k j : Nat), j + k = W.I.np → i < j → Run (e + 1) mX10_pairs 19 [some (vR 6), some (vI (sumF (fun i => sumF (fun j => if i < j then prB W.s i j else 0) W.I.np) i + sumF (fun j => if i < j then prB W.s i j else 0) j)), some (vI (i : Int)), some (vI (j : Int))] [] M Q := by
      intro k
      induction k with
      | zero =>
        intro j hj hij
        obtain rfl : j = W.I.np := by omega
        refine vx_pairs_19 (by omega) hS ⟨fun _ => ?_, fun c => absurd c (by rw [hX.np]; omega)⟩
        rw [w32s (by omega)]
        exact ih _
      | succ k ih2 =>
        intro j hj hij
        have b2 := in8 i j (by omega)
        have ih3 := ih2 (j + 1) (by omega) (by omega)
        simp only [sumF] at ih3
        rw [if_pos hij] at ih3
        have e1 : pW W.I W.s 1 = W.s 1 := rfl
        refine vx_pairs_19 (by omega) hS ⟨fun c => absurd c (by rw [hX.np]; omega), fun _ => t_thinksOf (by omega) hS (by decide) ha (by omega) ⟨_, rfl, hS, ?_⟩⟩
        rw [e1, w32s (by omega)]
        refine ⟨fun c => ?_, fun c => t_thinksOf (by omega) hS (by decide) ha (by omega) ⟨_, rfl, hS, ?_⟩⟩
        · rw [show prB W.s i j = 0 from if_pos c] at ih3
          rw [w32_i (by omega) (by omega)]
          rw [show ∀ x y : Int, x + (y + 0) = x + y + 0 from fun x y => by omega] at ih3
          exact ih3
        · rw [e1]
          have ep : (if thkF (W.s 1) j i = 0 then (0 : Int) else 1) = prB W.s i j := by unfold prB; rw [if_neg c]
          rw [ep]
          have := prB_in (s := W.s) (i := i) (j := j)
          rw [w32_i (by omega) (by omega)]
          rw [show ∀ x y z : Int, x + (y + z) = x + y + z from fun x y z => by omega] at ih3
          exact ih3
    have := inner (W.I.np - (i + 1)) (i + 1) (by omega) (by omega)
    rw [sumZ (f := fun j => if i < j then prB W.s i j else 0) (i + 1) (fun j hj => if_neg (by omega)), Int.add_zero] at this
    exact this
theorem X_most {w : Int} (hd : 9 ≤ d) (hX : CX M W) (hok : OKW W) (h : ∀ M', FX M M' → CX M' W → Q (some (vI (aMost W w))) M') : Call d mX10_most [vR 6, vI w] M Q := by
  obtain ⟨e, rfl⟩ := dd (d := d) (by omega)
  have hS := hX.shp
  have hn8 := hok.wi.1
  unfold aMost at h
  refine vx_most (by omega) hS ⟨fun c => ?_, fun c => ?_⟩
  · rw [i01n, hX.np] at c
    rw [if_neg (by omega)] at h
    have hn2 := hok.n2 (by omega)
    have gs := (hok.gs (by omega)).1
    refine X_weighed (by omega) hX hok (by omega) (fun M2 x2 f2 a2 => ⟨rfl, x2.shp, ?_⟩)
    have s2 := x2.shp
    have h := h M2 f2 x2
    have e1 : pW W.I W.s 1 = W.s 1 := rfl
    have e4 : pW W.I W.s 4 = W.s 4 := rfl
    refine ⟨fun z => X_heaviest (by omega) x2 hok hn2 a2 ⟨_, rfl, s2, ?_⟩, fun z => X_lightest (by omega) x2 hok hn2 a2 ⟨_, rfl, s2, ?_⟩, fun z => X_deepest (by omega) x2 hok hn2 a2 ⟨_, rfl, s2, ?_⟩, fun z => X_mostThoughtOf (by omega) x2 hok hn2 a2 ⟨_, rfl, s2, ?_⟩, fun z => t_floating (by omega) s2 (by decide) x2.ia hok.wi a2 (WS_pW gs) (WM_pW hok.wi) ⟨_, rfl, s2, ?_⟩, fun z => t_sinking (by omega) s2 (by decide) x2.ia hok.wi a2 (WS_pW gs) (WM_pW hok.wi) ⟨_, rfl, s2, ?_⟩, fun z => X_nobodys (by omega) x2 hok hn2 a2 ⟨_, rfl, s2, ?_⟩, fun z => t_thoughtCount (by omega) s2 (by decide) a2 ⟨_, rfl, s2, ?_⟩, fun z => X_fullMinds (by omega) x2 hok hn2 a2 ⟨_, rfl, s2, ?_⟩, fun z => t_oldestAge (by omega) s2 (by decide) a2 ⟨_, rfl, s2, ?_⟩, fun z => X_pairs (by omega) x2 hok hn2 a2 ⟨_, rfl, s2, ?_⟩, fun z => ?_⟩
    · rw [if_pos z] at h; exact h
    · rw [if_neg (by omega), if_pos z] at h; exact h
    · rw [if_neg (by omega), if_neg (by omega), if_pos z] at h; exact h
    · rw [if_neg (by omega), if_neg (by omega), if_neg (by omega), if_pos z] at h; exact h
    · rw [if_neg (by omega), if_neg (by omega), if_neg (by omega), if_neg (by omega), if_pos z] at h; exact h
    · rw [if_neg (by omega), if_neg (by omega), if_neg (by omega), if_neg (by omega), if_neg (by omega), if_pos z] at h; exact h
    · rw [if_neg (by omega), if_neg (by omega), if_neg (by omega), if_neg (by omega), if_neg (by omega), if_neg (by omega), if_pos z] at h; exact h
    · rw [if_neg (by omega), if_neg (by omega), if_neg (by omega), if_neg (by omega), if_neg (by omega), if_neg (by omega), if_neg (by omega), if_pos z] at h; rw [e1]; exact h
    · rw [if_neg (by omega), if_neg (by omega), if_neg (by omega), if_neg (by omega), if_neg (by omega), if_neg (by omega), if_neg (by omega), if_neg (by omega), if_pos z] at h; exact h
    · rw [if_neg (by omega), if_neg (by omega), if_neg (by omega), if_neg (by omega), if_neg (by omega), if_neg (by omega), if_neg (by omega), if_neg (by omega), if_neg (by omega), if_pos z] at h; rw [e1, e4]; exact h
    · rw [if_neg (by omega), if_neg (by omega), if_neg (by omega), if_neg (by omega), if_neg (by omega), if_neg (by omega), if_neg (by omega), if_neg (by omega), if_neg (by omega), if_neg (by omega), if_pos z] at h; exact h
    · rw [if_neg (by omega), if_neg (by omega), if_neg (by omega), if_neg (by omega), if_neg (by omega), if_neg (by omega), if_neg (by omega), if_neg (by omega), if_neg (by omega), if_neg (by omega), if_neg (by omega)] at h; exact h
  · rw [i01n, hX.np] at c
    rw [if_pos (by omega)] at h
    exact h M (FX.refl hS) hX
end MostX
