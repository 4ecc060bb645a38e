/-! games of two: of both -/
def chF (I : jI) (s : jS) (p o : Nat) (x : Int) : jS := if x = 1 ∧ fG (I.mi p) 0 = 1 ∧ fE (s 1) p ≠ -1 then pLay s (4 * p + (fE (s 1) p).toNat) (o : Nat) 0 9 else if x = 2 then pGive s p (o : Nat) else s
def gmF (I : jI) (s : jS) (p o : Nat) (x y : Int) : Int := hft (wtS (pW I (chF I (chF I s p o x) o p y)) p) - hft (wtS (pW I (chF I (chF I s p o x) o p y)) o) + (if flS (pW I (chF I (chF I s p o x) o p y)) o = true then 2 else 0)
theorem chF_o {I : jI} {s : jS} {p o : Nat} {x : Int} {f i : Nat} (h : i < 4 * p ∨ 4 * p + 4 ≤ i) : chF I s p o x f i = s f i := by
  have hf := fE_in (s 1) p
  unfold chF
  split
  · exact pLay_o (Or.inl (by omega))
  · split
    · unfold pGive; rw [if_neg (by omega)]
    · rfl
theorem chF_f {I : jI} {s : jS} {p o : Nat} {x : Int} {f i : Nat} (h : f = 0 ∨ 5 ≤ f) : chF I s p o x f i = s f i := by
  unfold chF
  split
  · exact pLay_o (Or.inr h)
  · split
    · unfold pGive; rw [if_neg (by omega)]
    · rfl
theorem chF_in {I : jI} {s s' : jS} {p o : Nat} {x : Int} (h : ∀ f i, 4 * p ≤ i → i < 4 * p + 4 → s f i = s' f i) {f i : Nat} (hi : 4 * p ≤ i ∧ i < 4 * p + 4) : chF I s p o x f i = chF I s' p o x f i := by
  have he : fE (s 1) p = fE (s' 1) p := fE_congr (fun j hj => h 1 (4 * p + j) (by omega) (by omega))
  unfold chF
  rw [he]
  split
  · unfold pLay
    rw [h f i hi.1 hi.2]
  · split
    · unfold pGive
      rw [h 1 i hi.1 hi.2, h f i hi.1 hi.2]
    · exact h f i hi.1 hi.2
theorem chF_comm {I : jI} {s : jS} {p o : Nat} {x y : Int} (h : p ≠ o) : chF I (chF I s p o x) o p y = chF I (chF I s o p y) p o x := by
  funext f i
  by_cases c : 4 * p ≤ i ∧ i < 4 * p + 4
  · rw [chF_o (p := o) (by omega)]
    exact (chF_in (fun f i h1 h2 => chF_o (by omega)) c).symm
  · rw [chF_o (s := chF I s o p y) (p := p) (by omega)]
    by_cases c2 : 4 * o ≤ i ∧ i < 4 * o + 4
    · exact chF_in (fun f i h1 h2 => chF_o (by omega)) c2
    · rw [chF_o (p := o) (by omega), chF_o (p := p) (by omega), chF_o (p := o) (by omega)]
theorem WS.give {n : Nat} {s : jS} {q : Nat} {w : Int} (h : WS n s) : WS n (pGive s q w) := by
  obtain ⟨w1, w2, w3, w4, w5, w6⟩ := h
  have e : ∀ f i, f ≠ 1 → pGive s q w f i = s f i := fun f i hf => if_neg (fun z => hf z.1)
  have e1 : ∀ i, pGive s q w 1 i = -1 ∨ pGive s q w 1 i = s 1 i := fun i => by unfold pGive; split <;> simp
  refine ⟨fun i hi => ?_, fun i hi hn => ?_, fun i hi => ?_, ?_, ?_, ?_⟩
  · rw [e 2 i (by omega), e 3 i (by omega), e 4 i (by omega)]
    have := w1 i hi
    rcases e1 i with z | z <;> omega
  · have := w2 i hi hn
    rcases e1 i with z | z <;> omega
  · rw [e 6 i (by omega)]; exact w3 i hi
  · rw [e 0 7 (by omega)]; exact w4
  · rw [e 0 8 (by omega)]; exact w5
  · rw [e 0 9 (by omega)]; exact w6
theorem WS.ch {n : Nat} {I : jI} {s : jS} {p o : Nat} {x : Int} (h : WS n s) (hp : p < n) (ho : o < n) : WS n (chF I s p o x) := by
  have hf := fE_in (s 1) p
  unfold chF
  split
  · exact h.lay (by omega) (by omega) (by omega) (by omega)
  · split
    · exact h.give
    · exact h
theorem GS.ch {I : jI} {n : Nat} {s : jS} {p o : Nat} {x : Int} (h : GS n s) (hp : p < n) (ho : o < n) : GS n (chF I s p o x) := by
  obtain ⟨h1, h2, h3, h4⟩ := h
  exact ⟨h1.ch hp ho, fun q hq => by rw [chF_f (by omega)]; exact h2 q hq, by rw [chF_f (by omega)]; exact h3, fun i hi => by rw [chF_f (by omega)]; exact h4 i hi⟩
def rsB (g0 g1 : Nat → Nat → Int) (x y : Nat) : Bool := decide ((g0 0 y ≤ g0 x y ∧ g1 x 0 ≤ g1 x y) ∧ (g0 1 y ≤ g0 x y ∧ g1 x 1 ≤ g1 x y) ∧ (g0 2 y ≤ g0 x y ∧ g1 x 2 ≤ g1 x y))
def cfF (r : Nat → Bool) (i : Int) : Nat → Nat → Int → Int
  | 0, _, found => if i = -1 then found else -1
  | n + 1, k, found => if r k = true then (if found = i then 10 * ((k / 3 : Nat) : Int) + ((k % 3 : Nat) : Int) else cfF r i n (k + 1) (found + 1)) else cfF r i n (k + 1) found
def twoB (W : kW) (p q : Int) : Prop := 0 ≤ p ∧ p < W.I.np ∧ 0 ≤ q ∧ q < W.I.np ∧ p ≠ q
def g0F (W : kW) (p q : Nat) (x y : Nat) : Int := gmF W.I W.s p q (x : Nat) (y : Nat)
def aGame (W : kW) (p q x y w : Int) : Int := if ¬ (0 ≤ p ∧ p < W.I.np ∧ 0 ≤ q ∧ q < W.I.np ∧ p ≠ q) ∨ x < 0 ∨ 2 < x ∨ y < 0 ∨ 2 < y ∨ w < 0 ∨ 1 < w then -1000000 else if w = 0 then gmF W.I W.s p.toNat q.toNat x y else gmF W.I W.s q.toNat p.toNat y x
def rsW (W : kW) (p q : Nat) (k : Nat) : Bool := rsB (g0F W p q) (fun x y => g0F W q p y x) (k / 3) (k % 3)
def aRests (W : kW) (p q i : Int) : Int := if ¬ (0 ≤ p ∧ p < W.I.np ∧ 0 ≤ q ∧ q < W.I.np ∧ p ≠ q) ∨ i < -1 then -1 else cfF (rsW W p.toNat q.toNat) i 9 0 0
section GameX
variable {d : Nat} {M : jM} {Q : Option jV → jM → Prop} {W : kW} {I : jI}
theorem gm_in {I : jI} {s : jS} {p o : Nat} {x y : Int} (hI : WI I) (hs : GS I.np s) (hp : p < I.np) (ho : o < I.np) : (∀ q, q < I.np → 0 < wtS (pW I (chF I (chF I s p o x) o p y)) q ∧ wtS (pW I (chF I (chF I s p o x) o p y)) q < 4611686018427387904) ∧ -100 ≤ gmF I s p o x y ∧ gmF I s p o x y ≤ 100 := by
  have hg : GS I.np (chF I (chF I s p o x) o p y) := (hs.ch hp ho).ch ho hp
  have hw : ∀ q, q < I.np → 0 < wtS (pW I (chF I (chF I s p o x) o p y)) q ∧ wtS (pW I (chF I (chF I s p o x) o p y)) q < 4611686018427387904 := by
    intro q hq
    have h8 := hI.1
    have h1 := wtS_17 (I := I) (p := q) hg.1 hI (by omega)
    have h2 := wtS_pos hI hg hq
    omega
  refine ⟨hw, ?_⟩
  have a := hft_in (hw p hp)
  have b := hft_in (hw o ho)
  unfold gmF
  split <;> omega
theorem x_move {u : jS} {p o : Nat} {x : Int} (hd : 5 ≤ d) (hS : Shp M) (hA : IA M I) (hp : p < 8) (hs : SB M 49 u) (h : ∀ M', Fr (Sp 49) M M' → SB M' 49 (chF I u p o x) → Q none M') : Call d mX10_move [vR 6, vI (p : Int), vI (o : Int), vI x] M Q := by
  obtain ⟨e, rfl⟩ := dd (d := d) (by omega)
  have e1 : smS M 49 u 1 = u 1 := funext (fun i => smS_n (by decide))
  have give : x = 2 → ∀ M', Fr (Sp 49) M M' → SA M' 49 (pGive (smS M 49 u) p (o : Int)) → Q none M' := by
    intro hx M' f a
    refine h M' f ?_
    have : chF I u p o x = pGive u p (o : Nat) := by unfold chF; rw [if_neg (by omega), if_pos hx]
    rw [this]
    refine a.sb (fun f i hf => ?_)
    unfold pGive
    rw [smS_n hf, e1]
  refine vx_move (by omega) hS ?_
  rw [atv_n hp, hA.2.2.2.2.1 p hp]
  refine ⟨fun c => ⟨fun c2 => ?_, fun c2 => ?_⟩, fun c => ⟨fun c2 => ⟨fun c3 => ?_, fun c3 => ?_⟩, fun c2 => ?_⟩⟩
  · have : chF I u p o x = u := by unfold chF; rw [if_neg (fun z => c z.1), if_neg c2]
    rw [this] at h
    exact h M Fr.refl hs
  · exact t_giveUpAll (by omega) hS (by decide) hs.sa hp (fun M' f a => ⟨rfl, f.shp hS, give (by omega) M' f a⟩)
  · have : chF I u p o x = u := by unfold chF; rw [if_neg (fun z => by have := z.2.1; omega), if_neg c3]
    rw [this] at h
    exact h M Fr.refl hs
  · omega
  · rw [fG_0, Classical.not_not] at c2
    refine t_emptyPlace (by omega) hS (by decide) hs.sa hp ⟨_, rfl, hS, ?_⟩
    rw [e1]
    have hf := fE_in (u 1) p
    by_cases c3 : fE (u 1) p = -1
    · have : chF I u p o x = u := by unfold chF; rw [if_neg (fun z => z.2.2 c3), if_neg (by omega)]
      rw [this] at h
      rw [c3]
      exact s_lay_no (by omega) hS (by decide) (by omega) ⟨rfl, hS, h M Fr.refl hs⟩
    · have : chF I u p o x = pLay u (4 * p + (fE (u 1) p).toNat) (o : Nat) 0 9 := by unfold chF; rw [if_pos ⟨by omega, c2, c3⟩]
      rw [this] at h
      obtain ⟨r, hr⟩ : ∃ r : Nat, fE (u 1) p = (r : Int) := ⟨(fE (u 1) p).toNat, by omega⟩
      rw [hr] at h hf ⊢
      rw [Int.toNat_natCast] at h
      refine t_layIn (by omega) hS (by decide) hs.sa hp (by omega) (fun M' f a => ⟨rfl, f.shp hS, h M' f (a.sb (fun g i hg => ?_))⟩)
      unfold pLay
      rw [smS_n hg]
theorem X_play {p q : Nat} {x y : Int} (hd : 10 ≤ d) (hX : CX M W) (hok : OKW W) (hp : p < W.I.np) (hq : q < W.I.np) (h : ∀ M', Fr (As M) M M' → SA M' 49 (pW W.I (chF W.I (chF W.I W.s p q x) q p y)) → Q none M') : Call d mX10_play [vR 6, vI (p : Int), vI (q : Int), vI x, vI y] M Q := by
  obtain ⟨e, rfl⟩ := dd (d := d) (by omega)
  have hS := hX.shp
  have hn8 := hok.wi.1
  have gs := hok.gs (by omega)
  refine vx_play (by omega) hS (X_aside (by omega) hX hok (by omega) (fun M1 f1 b1 => ⟨rfl, f1.shp hS, ?_⟩))
  have g1 : Fr (As M) M M1 := f1.mono (fun r => As_sp)
  refine x_move (by omega) (g1.shp hS) (hX.ia.xc g1 (fun r => As_x)) (by omega) b1 (fun M2 f2 b2 => ⟨rfl, f2.shp (g1.shp hS), ?_⟩)
  have g2 : Fr (As M) M M2 := g1.trans (f2.mono (fun r => As_sp))
  refine x_move (by omega) (g2.shp hS) (hX.ia.xc g2 (fun r => As_x)) (by omega) b2 (fun M3 f3 b3 => ⟨rfl, f3.shp (g2.shp hS), ?_⟩)
  have g3 : Fr (As M) M M3 := g2.trans (f3.mono (fun r => As_sp))
  exact x_weigh (by omega) (g3.shp hS) (hX.ia.xc g3 (fun r => As_x)) hok.wi (by decide) b3 ((gs.1.ch hp hq).ch hq hp) (fun M4 f4 a4 => ⟨rfl, f4.shp (g3.shp hS), h M4 (As_w g3 f4 rfl) a4⟩)
theorem X_gainOf {s u : jS} {p q : Nat} {x y : Int} (hd : 5 ≤ d) (hS : Shp M) (hI : WI I) (hs : GS I.np s) (hp : p < I.np) (hq : q < I.np) (hu : u = chF I (chF I s p q x) q p y) (ha : SA M 49 (pW I u)) (h : Q (some (vI (gmF I s p q x y))) M) : Call d mX10_gainOf [vR 6, vI (p : Int), vI (q : Int)] M Q := by
  obtain ⟨e, rfl⟩ := dd (d := d) (by omega)
  have hn8 := hI.1
  obtain ⟨hw, hb⟩ := gm_in (x := x) (y := y) hI hs hp hq
  have hg : WS I.np u := by rw [hu]; exact (hs.1.ch hp hq).ch hq hp
  have w1 := hw p hp
  have w2 := hw q hq
  rw [← hu] at w1 w2
  have a1 := hft_in w1
  have a2 := hft_in w2
  refine vx_gainOf (by omega) hS (t_weight (by omega) hS (by decide) ha (WS_pW hg) (WM_pW hI) (by omega) ⟨_, rfl, hS, w1, t_weight (by omega) hS (by decide) ha (WS_pW hg) (WM_pW hI) (by omega) ⟨_, rfl, hS, w2, t_floats (by omega) hS (by decide) ha (WS_pW hg) (WM_pW hI) (by omega) ⟨_, rfl, hS, fun v18 hv18 => ?_⟩⟩⟩)
  rw [w32_i (z := hft (wtS (pW I u) p) - hft (wtS (pW I u) q)) (by omega) (by omega), w32_i (z := hft (wtS (pW I u) p) - hft (wtS (pW I u) q) + 2) (by omega) (by omega)] at hv18
  have : v18 = gmF I s p q x y := by
    rw [hv18]
    unfold gmF
    rw [← hu]
    by_cases c : flS (pW I u) q = true
    · simp [c]
    · simp [c]
  rw [this]
  exact h
theorem x_areTwo {p q : Int} (hd : 5 ≤ d) (hX : CX M W) (h : Q (some (vI (if 0 ≤ p ∧ p < W.I.np ∧ 0 ≤ q ∧ q < W.I.np ∧ p ≠ q then 1 else 0))) M) : Call d mX10_areTwo [vR 6, vI p, vI q] M Q := by
  obtain ⟨e, rfl⟩ := dd (d := d) (by omega)
  refine vx_areTwo (by omega) hX.shp ?_
  rw [hX.np]
  refine (congrArg (fun z => Q (some (vI z)) M) ?_).mp h
  simp only [i01]
  (repeat' split) <;> first | rfl | (exfalso; omega)
theorem X_game {p q x y w : Int} (hd : 12 ≤ d) (hX : CX M W) (hok : OKW W) (h : ∀ M', FX M M' → CX M' W → Q (some (vI (aGame W p q x y w))) M') : Call d mX10_game [vR 6, vI p, vI q, vI x, vI y, vI w] M Q := by
  obtain ⟨e, rfl⟩ := dd (d := d) (by omega)
  have hS := hX.shp
  have h0 := h M (FX.refl hS) hX
  unfold aGame at h h0
  refine vx_game (by omega) hS (x_areTwo (by omega) hX ⟨_, rfl, hS, ?_⟩)
  simp only [i01]
  refine ⟨fun c => ?_, fun c => ⟨fun c1 => ?_, fun c1 => ⟨fun c2 => ?_, fun c2 => ⟨fun c3 => ?_, fun c3 => ⟨fun c4 => ?_, fun c4 => ⟨fun c5 => ?_, fun c5 => ⟨fun c6 => ?_, fun c6 => ?_⟩⟩⟩⟩⟩⟩⟩
  · rw [if_pos (Or.inl c)] at h0; exact h0
  · rw [if_pos (by omega)] at h0; exact h0
  · rw [if_pos (by omega)] at h0; exact h0
  · rw [if_pos (by omega)] at h0; exact h0
  · rw [if_pos (by omega)] at h0; exact h0
  · rw [if_pos (by omega)] at h0; exact h0
  · rw [Classical.not_not] at c
    rw [if_neg (by omega)] at h
    obtain ⟨a, rfl⟩ : ∃ a : Nat, p = (a : Int) := ⟨p.toNat, by omega⟩
    obtain ⟨b, rfl⟩ : ∃ b : Nat, q = (b : Int) := ⟨q.toNat, by omega⟩
    rw [Int.toNat_natCast, Int.toNat_natCast] at h
    have gs := hok.gs (by omega)
    refine X_play (by omega) hX hok (by omega) (by omega) (fun M1 f1 a1 => ⟨rfl, f1.shp hS, ?_⟩)
    obtain ⟨q1, q2⟩ := hX.as hok f1
    refine ⟨fun c7 => ?_, fun c7 => ?_⟩
    · rw [if_neg (by omega)] at h
      exact X_gainOf (by omega) q1.shp hok.wi gs (by omega) (by omega) (chF_comm (by omega)) a1 ⟨_, rfl, q1.shp, h M1 q2 q1⟩
    · rw [if_pos (by omega)] at h
      exact X_gainOf (by omega) q1.shp hok.wi gs (by omega) (by omega) rfl a1 ⟨_, rfl, q1.shp, h M1 q2 q1⟩
  · rw [if_pos (by omega)] at h0; exact h0
theorem X_isRest {g0 g1 : Nat → Nat → Int} {x y : Nat} (hd : 5 ≤ d) (hS : Shp M) (hx : x < 3) (hy : y < 3) (hg : ∀ a b, a < 3 → b < 3 → iv M 467 (6 * a + 2 * b) = g0 a b ∧ iv M 467 (6 * a + 2 * b + 1) = g1 a b) (h : Q (some (vI (if rsB g0 g1 x y = true then 1 else 0))) M) : Call d mX10_isRest [vR 6, vI (x : Int), vI (y : Int)] M Q := by
  obtain ⟨e, rfl⟩ := dd (d := d) (by omega)
  have ix : ∀ a b : Nat, a < 3 → b < 3 → w32 (w32 (6 * (a : Int)) + w32 (2 * (b : Int))) = ((6 * a + 2 * b : Nat) : Int) := by
    intro a b ha hb
    rw [w32_i (z := 6 * (a : Int)) (by omega) (by omega), w32_i (z := 2 * (b : Int)) (by omega) (by omega), w32_i (by omega) (by omega)]
    omega
  have v0 : ∀ a b : Nat, a < 3 → b < 3 → atv M 18 467 (w32 (w32 (6 * (a : Int)) + w32 (2 * (b : Int)))) = g0 a b := fun a b ha hb => by rw [ix a b ha hb, atv_n (by omega), (hg a b ha hb).1]
  have v1 : ∀ a b : Nat, a < 3 → b < 3 → atv M 18 467 (w32 (w32 (w32 (6 * (a : Int)) + w32 (2 * (b : Int))) + 1)) = g1 a b := fun a b ha hb => by rw [ix a b ha hb, w32s (by omega), atv_n (by omega), (hg a b ha hb).2]
  refine vx_isRest (by omega) hS ?_
  have st : ∀ z : Nat, z < 3 → (¬ (g0 z y ≤ g0 x y ∧ g1 x z ≤ g1 x y) → Q (some (vI 0)) M) → ((g0 z y ≤ g0 x y ∧ g1 x z ≤ g1 x y) → Run (e + 1) mX10_isRest 2 [some (vR 6), some (vI (x : Int)), some (vI (y : Int)), some (vI ((z + 1 : Nat) : Int))] [] M Q) → Run (e + 1) mX10_isRest 2 [some (vR 6), some (vI (x : Int)), some (vI (y : Int)), some (vI (z : Int))] [] M Q := by
    intro z hz h1 h2
    refine vx_isRest_2 (by omega) hS ?_
    rw [v0 z y hz hy, v0 x y hx hy, w32s (by omega)]
    refine ⟨fun c => absurd c (by omega), fun _ => ⟨fun c v3 hv3 v4 hv4 => ?_, fun c => h1 (fun q => c q.1)⟩⟩
    rw [hv3, hv4, v1 x z hx hz, v1 x y hx hy]
    exact ⟨fun c2 => h2 ⟨c, c2⟩, fun c2 => h1 (fun q => c2 q.2)⟩
  unfold rsB at h
  simp only [decide_eq_true_eq] at h
  refine st 0 (by decide) (fun z => ?_) (fun z0 => st 1 (by decide) (fun z => ?_) (fun z1 => st 2 (by decide) (fun z => ?_) (fun z2 => ?_)))
  · rw [if_neg (fun q => z q.1)] at h; exact h
  · rw [if_neg (fun q => z q.2.1)] at h; exact h
  · rw [if_neg (fun q => z q.2.2)] at h; exact h
  · rw [if_pos ⟨z0, z1, z2⟩] at h
    exact vx_isRest_2 (by omega) hS ⟨fun _ => h, fun c => absurd (by decide) c⟩
theorem X_countOrFind {g0 g1 : Nat → Nat → Int} {i : Int} (hd : 6 ≤ d) (hS : Shp M) (hi : -1 ≤ i) (hg : ∀ a b, a < 3 → b < 3 → iv M 467 (6 * a + 2 * b) = g0 a b ∧ iv M 467 (6 * a + 2 * b + 1) = g1 a b) (h : Q (some (vI (cfF (fun k => rsB g0 g1 (k / 3) (k % 3)) i 9 0 0))) M) : Call d mX10_countOrFind [vR 6, vI i] M Q := by
  obtain ⟨e, rfl⟩ := dd (d := d) (by omega)
  refine vx_countOrFind (by omega) hS ?_
  have key : ∀ (n k : Nat) (found : Int), k + n = 9 → 0 ≤ found → found ≤ k → Q (some (vI (cfF (fun k => rsB g0 g1 (k / 3) (k % 3)) i n k found))) M → (∀ l4, k % 3 = 0 → Run (e + 1) mX10_countOrFind 4 [some (vR 6), some (vI i), some (vI found), some (vI ((k / 3 : Nat) : Int)), l4] [] M Q) ∧ (k % 3 ≠ 0 ∨ k < 9 → Run (e + 1) mX10_countOrFind 12 [some (vR 6), some (vI i), some (vI found), some (vI ((k / 3 : Nat) : Int)), some (vI ((k % 3 : Nat) : Int))] [] M Q) := by
    intro n
    induction n with
    | zero =>
      intro k found hk f0 f1 h
      obtain rfl : k = 9 := by omega
      refine ⟨fun l4 _ => ?_, fun z => absurd z (by decide)⟩
      simp only [cfF] at h
      refine vx_countOrFind_4 (by omega) hS ⟨fun _ => ?_, fun c => absurd (by decide) c⟩
      refine (congrArg (fun z => Q (some (vI z)) M) ?_).mp h
      by_cases c : i = -1
      · rw [if_pos c, if_neg (fun z => z c)]
      · rw [if_neg c, if_pos c]
    | succ n ih =>
      intro k found hk f0 f1 h
      have r12 : Run (e + 1) mX10_countOrFind 12 [some (vR 6), some (vI i), some (vI found), some (vI ((k / 3 : Nat) : Int)), some (vI ((k % 3 : Nat) : Int))] [] M Q := by
        simp only [cfF] at h
        -- on to the next one
        have nxt : ∀ f' : Int, 0 ≤ f' → f' ≤ k + 1 → Q (some (vI (cfF (fun k => rsB g0 g1 (k / 3) (k % 3)) i n (k + 1) f'))) M → Run (e + 1) mX10_countOrFind 12 [some (vR 6), some (vI i), some (vI f'), some (vI ((k / 3 : Nat) : Int)), some (vI ((k % 3 + 1 : Nat) : Int))] [] M Q := by
          intro f' a b h'
          obtain ⟨i1, i2⟩ := ih (k + 1) f' (by omega) a (by omega) h'
          by_cases c : k % 3 = 2
          · rw [c]
            refine vx_countOrFind_12 (by omega) hS ⟨fun _ => ?_, fun z => absurd (by decide) z⟩
            rw [w32s (by omega), show k / 3 + 1 = (k + 1) / 3 by omega]
            exact i1 _ (by omega)
          · rw [show k % 3 + 1 = (k + 1) % 3 by omega, show k / 3 = (k + 1) / 3 by omega]
            exact i2 (Or.inl (by omega))
        refine vx_countOrFind_12 (by omega) hS ⟨fun c => absurd c (by omega), fun _ => X_isRest (by omega) hS (by omega) (by omega) hg ⟨_, rfl, hS, fun c => ?_, fun c => ⟨fun c2 => ?_, fun c2 => ?_⟩⟩⟩
        · rw [i01] at c
          rw [if_neg c] at h
          rw [w32s (by omega)]
          exact nxt found f0 (by omega) h
        · rw [i01, Classical.not_not] at c
          rw [if_pos c, if_neg c2] at h
          rw [w32s (by omega), w32_i (z := found + 1) (by omega) (by omega)]
          exact nxt (found + 1) (by omega) (by omega) h
        · rw [i01, Classical.not_not] at c
          rw [if_pos c, if_pos (by omega)] at h
          rw [w32_i (z := 10 * ((k / 3 : Nat) : Int)) (by omega) (by omega), w32_i (by omega) (by omega)]
          exact h
      refine ⟨fun l4 hm => ?_, fun _ => r12⟩
      refine vx_countOrFind_4 (by omega) hS ⟨fun c => absurd c (by omega), fun _ => ?_⟩
      have := r12
      rw [hm] at this
      exact this
  exact (key 9 0 0 rfl (by omega) (by omega) h).1 none rfl
theorem X_rests {p q i : Int} (hd : 13 ≤ d) (hX : CX M W) (hok : OKW W) (h : ∀ M', FX M M' → CX M' W → Q (some (vI (aRests W p q i))) M') : Call d mX10_rests [vR 6, vI p, vI q, vI i] M Q := by
  obtain ⟨e, rfl⟩ := dd (d := d) (by omega)
  have hS := hX.shp
  have h0 := h M (FX.refl hS) hX
  unfold aRests at h h0
  refine vx_rests (by omega) hS (x_areTwo (by omega) hX ⟨_, rfl, hS, ?_⟩)
  simp only [i01]
  refine ⟨fun c => ?_, fun c => ⟨fun c1 => ?_, fun c1 => ?_⟩⟩
  · rw [if_pos (Or.inl c)] at h0; exact h0
  · rw [Classical.not_not] at c
    rw [if_neg (by omega)] at h
    obtain ⟨a, rfl⟩ : ∃ a : Nat, p = (a : Int) := ⟨p.toNat, by omega⟩
    obtain ⟨b, rfl⟩ : ∃ b : Nat, q = (b : Int) := ⟨q.toNat, by omega⟩
    rw [Int.toNat_natCast, Int.toNat_natCast] at h
    have gs := hok.gs (by omega)
    have nab : a ≠ b := by omega
    -- the gains ahead of the k-th pair
    have key : ∀ (n k : Nat) (M1 : jM), k + n = 9 → Fr (fun r => As M r ∨ r = 467) M M1 → (∀ x y, 3 * x + y < k → y < 3 → iv M1 467 (6 * x + 2 * y) = g0F W a b x y ∧ iv M1 467 (6 * x + 2 * y + 1) = g0F W b a y x) → (∀ l5, k % 3 = 0 → Run (e + 1) mX10_rests 19 [some (vR 6), some (vI (a : Int)), some (vI (b : Int)), some (vI i), some (vI ((k / 3 : Nat) : Int)), l5] [] M1 Q) ∧ (k % 3 ≠ 0 ∨ k < 9 → Run (e + 1) mX10_rests 28 [some (vR 6), some (vI (a : Int)), some (vI (b : Int)), some (vI i), some (vI ((k / 3 : Nat) : Int)), some (vI ((k % 3 : Nat) : Int))] [] M1 Q) := by
      intro n
      induction n with
      | zero =>
        intro k M1 hk f1 hg
        obtain rfl : k = 9 := by omega
        have x1 : CX M1 W := hX.obs hok f1 (fun r hr => by rcases hr with z | z; exact As_o z; unfold Xo; omega)
        have y1 : FX M M1 := FX.obs f1 hS (fun r hr => by rcases hr with z | z; have := As_o z; unfold Xo Wp at this; unfold Xa Wp; omega; unfold Xa; omega)
        refine ⟨fun l5 _ => ?_, fun z => absurd z (by decide)⟩
        refine vx_rests_19 (by omega) (f1.shp hS) ⟨fun _ => X_countOrFind (g0 := g0F W a b) (g1 := fun x y => g0F W b a y x) (by omega) (f1.shp hS) c1 (fun x y hx hy => hg x y (by omega) hy) ⟨_, rfl, f1.shp hS, h M1 y1 x1⟩, fun z => absurd (by decide) z⟩
      | succ n ih =>
        intro k M1 hk f1 hg
        have x1 : CX M1 W := hX.obs hok f1 (fun r hr => by rcases hr with z | z; exact As_o z; unfold Xo; omega)
        have s1 := x1.shp
        have r28 : Run (e + 1) mX10_rests 28 [some (vR 6), some (vI (a : Int)), some (vI (b : Int)), some (vI i), some (vI ((k / 3 : Nat) : Int)), some (vI ((k % 3 : Nat) : Int))] [] M1 Q := by
          have ew : w32 (w32 (6 * ((k / 3 : Nat) : Int)) + w32 (2 * ((k % 3 : Nat) : Int))) = ((6 * (k / 3) + 2 * (k % 3) : Nat) : Int) := by
            rw [w32_i (z := 6 * ((k / 3 : Nat) : Int)) (by omega) (by omega), w32_i (z := 2 * ((k % 3 : Nat) : Int)) (by omega) (by omega), w32_i (by omega) (by omega)]
            omega
          refine vx_rests_28 (by omega) s1 ⟨fun z => absurd z (by omega), fun _ => X_play (by omega) x1 hok (by omega) (by omega) (fun M2 f2 a2 => ⟨rfl, f2.shp s1, ?_⟩)⟩
          have s2 := f2.shp s1
          rw [show As M1 = As M from funext (fun r => by unfold As; rw [Wp_eq f1])] at f2
          have g2 : Fr (fun r => As M r ∨ r = 467) M M2 := f1.trans (f2.mono (fun r hr => Or.inl hr))
          have nA : ¬ As M 467 := by unfold As Wp; omega
          have i2 : iv M2 467 = iv M1 467 := f2.eiv nA
          refine X_gainOf (by omega) s2 hok.wi gs (by omega) (by omega) rfl a2 ⟨_, rfl, s2, fun N hN sN v hv => ?_⟩
          rw [ew, w32s (by omega)] at hv
          rw [ew] at hN
          have gN : Fr (fun r => r = 467) M2 N := by rw [hN]; exact fr_ptv rfl
          have a3 : SA N 49 (pW W.I (chF W.I (chF W.I W.s a b ((k / 3 : Nat) : Int)) b a ((k % 3 : Nat) : Int))) := a2.fr gN (fun j hj => by omega)
          refine X_gainOf (by omega) sN hok.wi gs (by omega) (by omega) (chF_comm nab) a3 ⟨_, rfl, sN, fun N2 hN2 sN2 => ?_⟩
          rw [hv] at hN2
          have g3 : Fr (fun r => As M r ∨ r = 467) M N2 := (g2.trans (gN.mono (fun r hr => Or.inr hr))).trans (by rw [hN2]; exact fr_ptv (Or.inr rfl))
          have hv2 : ∀ x, iv N2 467 x = if x = 6 * (k / 3) + 2 * (k % 3) + 1 then gmF W.I W.s b a ((k % 3 : Nat) : Int) ((k / 3 : Nat) : Int) else if x = 6 * (k / 3) + 2 * (k % 3) then gmF W.I W.s a b ((k / 3 : Nat) : Int) ((k % 3 : Nat) : Int) else iv M1 467 x := by
            intro x
            rw [hN2, hN, iv_ptv, iv_ptv, i2]
            by_cases z : x = 6 * (k / 3) + 2 * (k % 3) + 1
            · rw [if_pos ⟨rfl, by omega, by omega⟩, if_pos z]
            · rw [if_neg (by omega), if_neg z]
              by_cases z2 : x = 6 * (k / 3) + 2 * (k % 3)
              · rw [if_pos ⟨rfl, by omega, by omega⟩, if_pos z2]
              · rw [if_neg (by omega), if_neg z2]
          obtain ⟨i3, i4⟩ := ih (k + 1) N2 (by omega) g3 (fun x y hxy hy => by
            rw [hv2, hv2]
            by_cases z : 3 * x + y = k
            · rw [if_neg (by omega), if_pos (by omega), if_pos (by omega), show k / 3 = x by omega, show k % 3 = y by omega]
              exact ⟨rfl, rfl⟩
            · rw [if_neg (by omega), if_neg (by omega), if_neg (by omega), if_neg (by omega)]
              exact hg x y (by omega) hy)
          rw [w32s (by omega)]
          by_cases z : k % 3 = 2
          · rw [z]
            refine vx_rests_28 (by omega) sN2 ⟨fun _ => ?_, fun z => absurd (by decide) z⟩
            rw [w32s (by omega), show k / 3 + 1 = (k + 1) / 3 by omega]
            exact i3 _ (by omega)
          · rw [show k % 3 + 1 = (k + 1) % 3 by omega, show k / 3 = (k + 1) / 3 by omega]
            exact i4 (Or.inl (by omega))
        refine ⟨fun l5 hm => ?_, fun _ => r28⟩
        refine vx_rests_19 (by omega) s1 ⟨fun z => absurd z (by omega), fun _ => ?_⟩
        have := r28
        rw [hm] at this
        exact this
    exact (key 9 0 M rfl Fr.refl (fun x y hxy _ => by omega)).1 none rfl
  · rw [if_pos (by omega)] at h0; exact h0
end GameX
