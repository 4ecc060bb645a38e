/-! AN ISLAND's text: how it is read, without a machine -/
def leL : List Int := [119, 103, 98, 107, 98, 100, 109, 0, 97, 111, 107, 115]
def loL : List Int := [0, 1, 1, 0, 1, 1, 0, 0, 0, 0, 0, 1]
def hiL : List Int := [9, 99, 99, 99, 99, 99, 2, 0, 7, 7, 2, 9]
def utL : List Int := [3, 40, 60, 20, 9, 10, 0, 0, 0, 1, 0, 3]
def leY (i : Nat) : Int := leL.getD i 0
def loY (i : Nat) : Int := loL.getD i 0
def hiY (i : Nat) : Int := hiL.getD i 0
def utY (i : Nat) : Int := utL.getD i 0
/-- the class's static rows -/
def ST (M : jM) : Prop := ∀ i, i < 12 → iv M 1 i = leY i ∧ iv M 2 i = loY i ∧ iv M 3 i = hiY i ∧ iv M 4 i = utY i
/-- which item of a clause a letter is -/
def imF (st : Nat) (c : Int) : Int := if leY (4 * st + 0) = c then 0 else if leY (4 * st + 1) = c then 1 else if leY (4 * st + 2) = c then 2 else if leY (4 * st + 3) = c then 3 else -1
def upI (it : Nat → Int) (k : Nat) (v : Int) : Nat → Int := fun i => if i = k then v else it i
abbrev jIt : Type := Nat ⊕ (Nat × (Nat → Int))
def itY (T : jT) (st : Nat) : Nat → Nat → Nat → (Nat → Int) → jIt
  | 0, a, _, it => .inr (skT T a, it)
  | f + 1, a, g, it => if imF st (nxT T a) = -1 ∨ g.testBit (imF st (nxT T a)).toNat = true then .inr (skT T a, it)
    else match nmT T 2 (skT T a + 1) with
      | .inl w => .inl w
      | .inr (q, v) => if v < loY (4 * st + (imF st (nxT T a)).toNat) ∨ hiY (4 * st + (imF st (nxT T a)).toNat) < v then .inl (q - 1)
        else itY T st f q (g ||| 2 ^ (imF st (nxT T a)).toNat) (upI it (imF st (nxT T a)).toNat v)
/-- rules told, and they; persons; thoughts -/
abbrev jY : Type := (Bool × (Nat → Int)) × (Nat × (Nat → Nat → Int)) × (Nat × (Nat → Nat → Int))
abbrev jY.rt (Y : jY) : Bool := Y.1.1
abbrev jY.rl (Y : jY) : Nat → Int := Y.1.2
abbrev jY.np (Y : jY) : Nat := Y.2.1.1
abbrev jY.pr (Y : jY) : Nat → Nat → Int := Y.2.1.2
abbrev jY.nt (Y : jY) : Nat := Y.2.2.1
abbrev jY.th (Y : jY) : Nat → Nat → Int := Y.2.2.2
def kdY (Y : jY) (c : Int) : Int := if c = 115 ∧ Y.rt = false then 0 else if c = 112 ∧ Y.np < 8 then 1 else if c = 116 ∧ Y.nt < 12 then 2 else -1
def kpY (Y : jY) (st : Nat) (it : Nat → Int) : jY := if st = 0 then ((true, it), Y.2) else if st = 1 then (Y.1, (Y.np + 1, fun p k => if p = Y.np then it k else Y.pr p k), Y.2.2) else (Y.1, Y.2.1, (Y.nt + 1, fun p k => if p = Y.nt then it k else Y.th p k))
def ilF (T : jT) : Nat → Nat → jY → Nat ⊕ (Nat × jY)
  | 0, a, _ => .inl a
  | f + 1, a, Y => if kdY Y (nxT T a) = -1 then .inl (skT T a)
    else match itY T (kdY Y (nxT T a)).toNat 4 (skT T a + 1) 0 (fun i => utY (4 * (kdY Y (nxT T a)).toNat + i)) with
      | .inl w => .inl w
      | .inr (q, it) => if nxT T q = -1 then .inr (skT T q, kpY Y (kdY Y (nxT T a)).toNat it)
        else if nxT T q = 59 then ilF T f (skT T q + 1) (kpY Y (kdY Y (nxT T a)).toNat it) else .inl (skT T q)
/-- how many of the first n are x -/
def ahF (w : Nat → Int) (x : Int) : Nat → Int
  | 0 => 0
  | n + 1 => if w n = x then ahF w x n + 1 else ahF w x n
def goodT (Y : jY) (i : Nat) : Prop := Y.th i 0 < Y.np ∧ Y.th i 1 < Y.np ∧ Y.th i 0 ≠ Y.th i 1 ∧ fG (Y.pr (Y.th i 0).toNat 2) (Y.th i 2) = 1 ∧ ahF (fun j => Y.th j 0) (Y.th i 0) i < 4
def okY (Y : jY) : Prop := 2 ≤ Y.np ∧ ∀ i, i < Y.nt → goodT Y i
noncomputable def okYb (Y : jY) : Bool := @decide (okY Y) (Classical.propDecidable _)
theorem okYb_t {Y : jY} : okYb Y = true ↔ okY Y := @decide_eq_true_iff _ (Classical.propDecidable _)
def Y0 : jY := ((false, fun i => utY i), (0, fun _ _ => 0), (0, fun _ _ => 0))
noncomputable def isT (T : jT) : Nat ⊕ jY := match ilF T (T.2 + 1) 0 Y0 with
  | .inl w => .inl w
  | .inr (q, Y) => if okYb Y = true then .inr Y else .inl q
/-- the values keep to their bounds -/
def okIt (st : Nat) (it : Nat → Int) : Prop := ∀ k, k < 4 → loY (4 * st + k) ≤ it k ∧ it k ≤ hiY (4 * st + k)
def okYr (Y : jY) : Prop := okIt 0 Y.rl ∧ (∀ p, p < Y.np → okIt 1 (Y.pr p)) ∧ (∀ p, p < Y.nt → okIt 2 (Y.th p)) ∧ Y.np ≤ 8 ∧ Y.nt ≤ 12
theorem tab_in : ∀ i, i < 12 → loY i ≤ utY i ∧ utY i ≤ hiY i ∧ 0 ≤ loY i ∧ hiY i ≤ 99 := by
  intro i hi
  have : i = 0 ∨ i = 1 ∨ i = 2 ∨ i = 3 ∨ i = 4 ∨ i = 5 ∨ i = 6 ∨ i = 7 ∨ i = 8 ∨ i = 9 ∨ i = 10 ∨ i = 11 := by omega
  rcases this with h | h | h | h | h | h | h | h | h | h | h | h <;> subst h <;> decide
theorem okIt_ut {st : Nat} (h : st < 3) : okIt st (fun i => utY (4 * st + i)) := fun k hk => ⟨(tab_in _ (by omega)).1, (tab_in _ (by omega)).2.1⟩
theorem imF_in {st : Nat} {c : Int} : -1 ≤ imF st c ∧ imF st c < 4 := by
  unfold imF
  split
  · omega
  · split
    · omega
    · split
      · omega
      · split <;> omega
theorem imF_no {st : Nat} {c : Int} (hst : st < 3) (hc : c = -1 ∨ c = 59) : imF st c = -1 := by
  have : st = 0 ∨ st = 1 ∨ st = 2 := by omega
  rcases this with h | h | h <;> rcases hc with z | z <;> subst h <;> subst z <;> decide
def cbN (g : Nat) : Nat := (if g.testBit 0 then 1 else 0) + (if g.testBit 1 then 1 else 0) + (if g.testBit 2 then 1 else 0) + (if g.testBit 3 then 1 else 0)
theorem bits_all : ∀ g : Fin 16, ∀ k : Fin 4, g.val ||| 2 ^ k.val < 16 ∧ (g.val.testBit k.val = false → cbN (g.val ||| 2 ^ k.val) = cbN g.val + 1) ∧ jor (g.val : Int) (jshl 1 (k.val : Int)) = ((g.val ||| 2 ^ k.val : Nat) : Int) ∧ jand (jshr (g.val : Int) (k.val : Int)) 1 = (if g.val.testBit k.val then 1 else 0) ∧ cbN g.val ≤ 4 := by decide +kernel
theorem bits {g k : Nat} (hg : g < 16) (hk : k < 4) : g ||| 2 ^ k < 16 ∧ (g.testBit k = false → cbN (g ||| 2 ^ k) = cbN g + 1) ∧ jor (g : Int) (jshl 1 (k : Int)) = ((g ||| 2 ^ k : Nat) : Int) ∧ jand (jshr (g : Int) (k : Int)) 1 = (if g.testBit k then 1 else 0) ∧ cbN g ≤ 4 := bits_all ⟨g, hg⟩ ⟨k, hk⟩
theorem bits4 : ∀ g : Fin 16, cbN g.val = 4 → g.val.testBit 0 = true ∧ g.val.testBit 1 = true ∧ g.val.testBit 2 = true ∧ g.val.testBit 3 = true := by decide +kernel
theorem bits_full {g k : Nat} (hg : g < 16) (hc : cbN g = 4) (hk : k < 4) : g.testBit k = true := by
  obtain ⟨h0, h1, h2, h3⟩ := bits4 ⟨g, hg⟩ hc
  have : k = 0 ∨ k = 1 ∨ k = 2 ∨ k = 3 := by omega
  rcases this with h | h | h | h <;> subst h <;> assumption
theorem okIt_up {st k : Nat} {it : Nat → Int} {v : Int} (h : okIt st it) (h1 : ¬ (v < loY (4 * st + k) ∨ hiY (4 * st + k) < v)) : okIt st (upI it k v) := by
  intro j hj
  unfold upI
  by_cases z : j = k
  · rw [if_pos z, z]; omega
  · rw [if_neg z]; exact h j hj
theorem itY_ok {T : jT} {st : Nat} (hst : st < 3) : ∀ f a g it, a ≤ T.2 → okIt st it → match itY T st f a g it with
    | .inl w => w ≤ T.2
    | .inr (q, it') => a ≤ q ∧ q ≤ T.2 ∧ skT T q = q ∧ okIt st it'
  | 0, a, g, it, ha, h => ⟨(skT_in (T := T) a).1, (skT_in (T := T) a).2 ha, skT_sk, h⟩
  | f + 1, a, g, it, ha, h => by
    have hk := (skT_in (T := T) a).1
    simp only [itY]
    by_cases c : imF st (nxT T a) = -1 ∨ g.testBit (imF st (nxT T a)).toNat = true
    · rw [if_pos c]
      exact ⟨(skT_in (T := T) a).1, (skT_in (T := T) a).2 ha, skT_sk, h⟩
    · rw [if_neg c]
      have hl : skT T a < T.2 ∨ T.2 ≤ skT T a := by omega
      have hle : skT T a ≤ T.2 := (skT_in (T := T) a).2 ha
      have hs1 := (skT_in (T := T) (skT T a + 1)).1
      have hnm : ∀ q v, nmT T 2 (skT T a + 1) = .inr (q, v) → skT T a + 1 ≤ q ∧ q ≤ T.2 := by
        intro q v hq
        by_cases z : skT T a < T.2
        · have := nmT_q (T := T) (by omega) hq
          omega
        · unfold nmT at hq
          rw [(nxT_end (T := T) (a := skT T a + 1) (by omega)).1, if_neg (by decide)] at hq
          cases hq
      have hni : ∀ w, nmT T 2 (skT T a + 1) = .inl w → skT T a < T.2 → w ≤ T.2 := by
        intro w hw z
        unfold nmT at hw
        by_cases y : fDg (nxT T (skT T a + 1)) = 1
        · rw [if_pos y] at hw
          have := dgF_in (T := T) 2 (skT T (skT T a + 1)) 0 ((skT_in (T := T) _).2 (by omega))
          rw [hw] at this
          exact this
        · rw [if_neg y] at hw
          cases hw
          exact (skT_in (T := T) _).2 (by omega)
      cases hr : nmT T 2 (skT T a + 1) with
      | inl w =>
        by_cases z : skT T a < T.2
        · exact hni w hr z
        · exfalso
          have e1 : nxT T a = -1 := hrT_end (by omega)
          rw [e1] at c
          exact c (Or.inl (imF_no hst (Or.inl rfl)))
      | inr x =>
        obtain ⟨q, v⟩ := x
        obtain ⟨q1, q2⟩ := hnm q v hr
        dsimp only
        by_cases z : v < loY (4 * st + (imF st (nxT T a)).toNat) ∨ hiY (4 * st + (imF st (nxT T a)).toNat) < v
        · rw [if_pos z]
          show q - 1 ≤ T.2
          omega
        · rw [if_neg z]
          have := itY_ok (T := T) hst f q (g ||| 2 ^ (imF st (nxT T a)).toNat) (upI it (imF st (nxT T a)).toNat v) q2 (okIt_up h z)
          revert this
          cases itY T st f q (g ||| 2 ^ (imF st (nxT T a)).toNat) (upI it (imF st (nxT T a)).toNat v) with
          | inl w => exact fun h => h
          | inr y => exact fun h => ⟨by omega, h.2⟩
theorem kdY_in {Y : jY} {c : Int} : -1 ≤ kdY Y c ∧ kdY Y c < 3 := by
  unfold kdY
  split
  · omega
  · split
    · omega
    · split <;> omega
theorem kpY_ok {Y : jY} {c : Int} {it : Nat → Int} (h : okYr Y) (hk : kdY Y c ≠ -1) (hit : okIt (kdY Y c).toNat it) : okYr (kpY Y (kdY Y c).toNat it) := by
  obtain ⟨h1, h2, h3, h4, h5⟩ := h
  unfold kdY at hk hit ⊢
  by_cases c0 : c = 115 ∧ Y.rt = false
  · rw [if_pos c0] at hit ⊢
    exact ⟨hit, h2, h3, h4, h5⟩
  · rw [if_neg c0] at hk hit ⊢
    by_cases c1 : c = 112 ∧ Y.np < 8
    · rw [if_pos c1] at hit ⊢
      refine ⟨h1, fun p hp => ?_, h3, ?_, h5⟩
      · have hp : p < Y.np + 1 := hp
        show okIt 1 (fun k => if p = Y.np then it k else Y.pr p k)
        by_cases z : p = Y.np
        · simp only [if_pos z]; exact hit
        · simp only [if_neg z]; exact h2 p (by omega)
      · show Y.np + 1 ≤ 8
        omega
    · rw [if_neg c1] at hk hit ⊢
      by_cases c2 : c = 116 ∧ Y.nt < 12
      · rw [if_pos c2] at hit ⊢
        refine ⟨h1, h2, fun p hp => ?_, h4, ?_⟩
        · have hp : p < Y.nt + 1 := hp
          show okIt 2 (fun k => if p = Y.nt then it k else Y.th p k)
          by_cases z : p = Y.nt
          · simp only [if_pos z]; exact hit
          · simp only [if_neg z]; exact h3 p (by omega)
        · show Y.nt + 1 ≤ 12
          omega
      · rw [if_neg c2] at hk
        exact absurd rfl hk
theorem Y0_ok : okYr Y0 := by
  refine ⟨fun k hk => ?_, fun p hp => absurd hp (Nat.not_lt_zero _), fun p hp => absurd hp (Nat.not_lt_zero _), Nat.zero_le _, Nat.zero_le _⟩
  have := tab_in (4 * 0 + k) (by omega)
  show loY (4 * 0 + k) ≤ utY k ∧ utY k ≤ hiY (4 * 0 + k)
  rw [show 4 * 0 + k = k by omega] at this ⊢
  exact ⟨this.1, this.2.1⟩
theorem ilF_ok {T : jT} : ∀ f a Y, a ≤ T.2 → okYr Y → match ilF T f a Y with
    | .inl _ => True
    | .inr (q, Y') => q ≤ T.2 ∧ skT T q = q ∧ nxT T q = -1 ∧ okYr Y'
  | 0, a, Y, ha, h => trivial
  | f + 1, a, Y, ha, h => by
    simp only [ilF]
    by_cases c : kdY Y (nxT T a) = -1
    · rw [if_pos c]; trivial
    · rw [if_neg c]
      have hk3 := kdY_in (Y := Y) (c := nxT T a)
      have hl : skT T a < T.2 := nxT_lt (fun z => by rw [z] at c; exact c (by unfold kdY; rw [if_neg (by omega), if_neg (by omega), if_neg (by omega)]))
      have h1 := itY_ok (T := T) (st := (kdY Y (nxT T a)).toNat) (by omega) 4 (skT T a + 1) 0 (fun i => utY (4 * (kdY Y (nxT T a)).toNat + i)) (by omega) (okIt_ut (by omega))
      revert h1
      cases itY T (kdY Y (nxT T a)).toNat 4 (skT T a + 1) 0 (fun i => utY (4 * (kdY Y (nxT T a)).toNat + i)) with
      | inl w => exact fun _ => trivial
      | inr x =>
        obtain ⟨q, it⟩ := x
        intro h1
        obtain ⟨q1, q2, q3, q4⟩ := h1
        dsimp only
        have hY := kpY_ok (c := nxT T a) h c q4
        by_cases z : nxT T q = -1
        · rw [if_pos z]
          exact ⟨(skT_in (T := T) q).2 q2, skT_sk, by rw [nxT_sk]; exact z, hY⟩
        · rw [if_neg z]
          by_cases y : nxT T q = 59
          · rw [if_pos y]
            have hlt : skT T q < T.2 := nxT_lt (by rw [y]; decide)
            exact ilF_ok f _ _ (by omega) hY
          · rw [if_neg y]; trivial
theorem isT_ok {T : jT} {Y : jY} (h : isT T = .inr Y) : okYr Y ∧ okY Y := by
  unfold isT at h
  have h1 := ilF_ok (T := T) (T.2 + 1) 0 Y0 (Nat.zero_le _) Y0_ok
  revert h h1
  cases ilF T (T.2 + 1) 0 Y0 with
  | inl w => intro h; cases h
  | inr x =>
    obtain ⟨q, Y'⟩ := x
    intro h h1
    dsimp only at h
    by_cases z : okYb Y' = true
    · rw [if_pos z] at h
      cases h
      exact ⟨h1.2.2.2, okYb_t.mp z⟩
    · rw [if_neg z] at h
      cases h
theorem ahF_in {w : Nat → Int} {x : Int} : ∀ n, 0 ≤ ahF w x n ∧ ahF w x n ≤ n
  | 0 => by simp [ahF]
  | n + 1 => by
    have := ahF_in (w := w) (x := x) n
    simp only [ahF]
    split <;> omega
