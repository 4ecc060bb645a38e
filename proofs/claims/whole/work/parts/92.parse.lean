/-! THE TEXTS: how they are read, without a machine -/
/-- a tape: its bytes, how many -/
abbrev jT : Type := (Nat → Int) × Nat
/-- what a reader comes to: the fault, or where it stands then and the code -/
abbrev jR : Type := Nat ⊕ (Nat × List (Int × Int))
def hrT (T : jT) (a : Nat) : Int := if a < T.2 then T.1 a else -1
def skF (T : jT) : Nat → Nat → Nat
  | 0, a => a
  | f + 1, a => if hrT T a = 32 then skF T f (a + 1) else a
def skT (T : jT) (a : Nat) : Nat := skF T (T.2 - a) a
def nxT (T : jT) (a : Nat) : Int := hrT T (skT T a)
theorem hrT_end {T : jT} {a : Nat} (h : T.2 ≤ a) : hrT T a = -1 := if_neg (by omega)
theorem skT_y {T : jT} {a : Nat} (h : hrT T a = 32) : skT T a = skT T (a + 1) := by
  have ha : a < T.2 := by
    by_cases c : a < T.2
    · exact c
    · rw [hrT_end (by omega)] at h; exact absurd h (by decide)
  unfold skT
  rw [show T.2 - a = (T.2 - (a + 1)) + 1 by omega]
  simp only [skF]
  rw [if_pos h]
theorem skT_n {T : jT} {a : Nat} (h : hrT T a ≠ 32) : skT T a = a := by
  unfold skT
  cases T.2 - a with
  | zero => rfl
  | succ f => simp only [skF]; rw [if_neg h]
theorem skF_in {T : jT} : ∀ f a, a ≤ skF T f a ∧ (a ≤ T.2 → skF T f a ≤ T.2)
  | 0, a => ⟨Nat.le_refl _, fun h => h⟩
  | f + 1, a => by
    simp only [skF]
    by_cases c : hrT T a = 32
    · rw [if_pos c]
      have ha : a < T.2 := by
        by_cases z : a < T.2
        · exact z
        · rw [hrT_end (by omega)] at c; exact absurd c (by decide)
      obtain ⟨h1, h2⟩ := skF_in (T := T) f (a + 1)
      exact ⟨by omega, fun _ => h2 (by omega)⟩
    · rw [if_neg c]
      exact ⟨Nat.le_refl _, fun h => h⟩
theorem skT_in {T : jT} (a : Nat) : a ≤ skT T a ∧ (a ≤ T.2 → skT T a ≤ T.2) := skF_in _ a
theorem skT_32 {T : jT} : ∀ f a, T.2 - a ≤ f → hrT T (skT T a) ≠ 32
  | 0, a, h => by
    have e : hrT T a = -1 := hrT_end (by omega)
    rw [skT_n (by rw [e]; decide), e]
    decide
  | f + 1, a, h => by
    by_cases c : hrT T a = 32
    · rw [skT_y c]
      exact skT_32 f (a + 1) (by omega)
    · rw [skT_n c]
      exact c
theorem nxT_32 {T : jT} {a : Nat} : nxT T a ≠ 32 := skT_32 _ a (Nat.le_refl _)
theorem skT_sk {T : jT} {a : Nat} : skT T (skT T a) = skT T a := skT_n nxT_32
theorem nxT_sk {T : jT} {a : Nat} : nxT T (skT T a) = nxT T a := by unfold nxT; rw [skT_sk]
theorem nxT_end {T : jT} {a : Nat} (h : T.2 ≤ a) : nxT T a = -1 ∧ skT T a = a := by
  have e : hrT T a = -1 := hrT_end h
  have s : skT T a = a := skT_n (by rw [e]; decide)
  exact ⟨by unfold nxT; rw [s, e], s⟩
theorem nxT_lt {T : jT} {a : Nat} (h : nxT T a ≠ -1) : skT T a < T.2 := by
  by_cases c : skT T a < T.2
  · exact c
  · exact absurd (hrT_end (by omega)) h
def dgF (T : jT) : Nat → Nat → Int → Nat ⊕ (Nat × Int)
  | 0, p, v => if fDg (hrT T p) = 1 then .inl p else .inr (p, v)
  | n + 1, p, v => if fDg (hrT T p) = 1 then dgF T n (p + 1) (10 * v + hrT T p - 48) else .inr (p, v)
def atF (T : jT) (sub : Option (Nat → jR)) (a : Nat) : jR :=
  if fDg (nxT T a) = 1 then (match dgF T 4 (skT T a) 0 with
    | .inl w => .inl w
    | .inr (q, v) => .inr (q, [(110, v)]))
  else if fLt (nxT T a) ≠ -1 then .inr (skT T a + 1, [(108, fLt (nxT T a))])
  else if nxT T a = 91 then (match sub with
    | none => .inl (skT T a)
    | some s => match s (skT T a + 1) with
      | .inl w => .inl w
      | .inr (q, l) => if nxT T q = 93 then .inr (skT T q + 1, l) else .inl (skT T q))
  else .inl (skT T a)
def lpF (T : jT) (o : Int → Bool) (s : Nat → jR) : Nat → Nat → List (Int × Int) → jR
  | 0, a, l => .inr (skT T a, l)
  | f + 1, a, l => if o (nxT T a) = true then (match s (skT T a + 1) with
      | .inl w => .inl w
      | .inr (q, l') => lpF T o s f q (l ++ l' ++ [(nxT T a, 0)]))
    else .inr (skT T a, l)
def chB (T : jT) (o : Int → Bool) (s : Nat → jR) (r : jR) : jR := match r with
  | .inl w => .inl w
  | .inr (q, l) => lpF T o s T.2 q l
def oM (c : Int) : Bool := c == 42 || c == 47
def oA (c : Int) : Bool := c == 43 || c == 45
def oN (c : Int) : Bool := c == 38
def oO (c : Int) : Bool := c == 124
def tmF (T : jT) (sub : Option (Nat → jR)) (a : Nat) : jR := chB T oM (atF T sub) (atF T sub a)
def smF (T : jT) (sub : Option (Nat → jR)) (a : Nat) : jR := chB T oA (tmF T sub) (tmF T sub a)
/-- the parser at one nest less -/
def lessP (p : Nat → Nat → jR) : Nat → Option (Nat → jR)
  | 0 => none
  | k + 1 => some (p k)
def smK (T : jT) : Nat → Nat → jR
  | 0 => smF T none
  | k + 1 => smF T (some (smK T k))
theorem smK_e {T : jT} {k : Nat} : smK T k = smF T (lessP (smK T) k) := by cases k <;> rfl
def cmF (T : jT) (s : Nat → jR) (r : jR) : jR := match r with
  | .inl w => .inl w
  | .inr (q, l) => if fSg (nxT T q) = 1 then (match s (skT T q + 1) with
      | .inl w => .inl w
      | .inr (q', l') => .inr (q', l ++ l' ++ [(nxT T q, 0)]))
    else .inl (skT T q)
def cdF (T : jT) (u : Nat → jR) (r : jR) : jR := chB T oO (fun b => chB T oN u (u b)) (chB T oN u r)
def unF (T : jT) (s : Nat → jR) (sub : Option (Nat → jR)) (a : Nat) : jR :=
  if nxT T a = 33 then (match sub with
    | none => .inl (skT T a)
    | some u => match u (skT T a + 1) with
      | .inl w => .inl w
      | .inr (q, l) => .inr (q, l ++ [(33, 0)]))
  else if nxT T a = 40 then (match sub with
    | none => .inl (skT T a)
    | some u => match cdF T u (u (skT T a + 1)) with
      | .inl w => .inl w
      | .inr (q, l) => if nxT T q = 41 then .inr (skT T q + 1, l) else .inl (skT T q))
  else cmF T s (s a)
def unK (T : jT) : Nat → Nat → jR
  | 0 => unF T (smK T 0) none
  | k + 1 => unF T (smK T (k + 1)) (some (unK T k))
theorem unK_e {T : jT} {k : Nat} : unK T k = unF T (smK T k) (lessP (unK T) k) := by cases k <;> rfl
/-- a clause: its condition's code, its sum's -/
abbrev jC : Type := Nat ⊕ (Nat × List (Int × Int) × List (Int × Int))
def qsF (T : jT) (r : jR) : jC := match r with
  | .inl w => .inl w
  | .inr (q, lc) => if nxT T q = 63 then (match smK T 6 (skT T q + 1) with
      | .inl w => .inl w
      | .inr (q', ls) => .inr (q', lc, ls))
    else .inl (skT T q)
def clB (T : jT) (b : Nat) : jC :=
  if nxT T b = 33 ∨ nxT T b = 40 then qsF T (cdF T (unK T 6) (unK T 6 b))
  else match smK T 6 b with
    | .inl w => .inl w
    | .inr (q, l) => if fSg (nxT T q) = 1 then qsF T (cdF T (unK T 6) (cmF T (smK T 6) (.inr (q, l)))) else .inr (skT T q, [], l)
def clF (T : jT) (a : Nat) : jC :=
  if nxT T a ≠ 121 then .inl (skT T a) else if nxT T (skT T a + 1) ≠ 58 then .inl (skT T (skT T a + 1)) else clB T (skT T (skT T a + 1) + 1)
abbrev jL : Type := List (Int × Int) × List (Nat × Nat × Nat)
def lwF (T : jT) : Nat → Nat → jL → Nat ⊕ jL
  | 0, a, _ => .inl a
  | f + 1, a, L => match clF T a with
    | .inl w => .inl w
    | .inr (q, lc, ls) =>
      if nxT T q = -1 then .inr (L.1 ++ (lc ++ ls), L.2 ++ [(L.1.length, L.1.length + lc.length, L.1.length + (lc.length + ls.length))])
      else if nxT T q = 59 then lwF T f (skT T q + 1) (L.1 ++ (lc ++ ls), L.2 ++ [(L.1.length, L.1.length + lc.length, L.1.length + (lc.length + ls.length))])
      else .inl (skT T q)
def lwT (T : jT) : Nat ⊕ jL := lwF T (T.2 + 1) 0 ([], [])
/-! bounds: each sign of the code comes of a byte -/
def okR (T : jT) (a : Nat) (r : jR) : Prop := match r with
  | .inl w => w ≤ T.2
  | .inr (q, l) => a + l.length ≤ q ∧ a < q ∧ q ≤ T.2
def okP (T : jT) (s : Nat → jR) : Prop := ∀ a, a ≤ T.2 → okR T a (s a)
theorem fDg_1 {c : Int} : fDg c = 1 ↔ 48 ≤ c ∧ c ≤ 57 := by unfold fDg; split <;> simp_all
theorem dgF_in {T : jT} : ∀ n p v, p ≤ T.2 → match dgF T n p v with
    | .inl w => w ≤ T.2
    | .inr (q, _) => p ≤ q ∧ q ≤ T.2
  | 0, p, v, hp => by
    simp only [dgF]
    by_cases c : fDg (hrT T p) = 1
    · rw [if_pos c]; exact hp
    · rw [if_neg c]; exact ⟨Nat.le_refl _, hp⟩
  | n + 1, p, v, hp => by
    simp only [dgF]
    by_cases c : fDg (hrT T p) = 1
    · rw [if_pos c]
      have ha : p < T.2 := by
        by_cases z : p < T.2
        · exact z
        · rw [hrT_end (by omega)] at c; exact absurd c (by decide)
      have := dgF_in (T := T) n (p + 1) (10 * v + hrT T p - 48) (by omega)
      revert this
      cases dgF T n (p + 1) (10 * v + hrT T p - 48) with
      | inl w => exact fun h => h
      | inr x => exact fun h => ⟨by omega, h.2⟩
    · rw [if_neg c]; exact ⟨Nat.le_refl _, hp⟩
theorem dgF_4 {T : jT} {p q : Nat} {v w : Int} {n : Nat} (hd : fDg (hrT T p) = 1) (h : dgF T (n + 1) p v = .inr (q, w)) : p < q := by
  simp only [dgF] at h
  rw [if_pos hd] at h
  have ha : p < T.2 := by
    by_cases z : p < T.2
    · exact z
    · rw [hrT_end (by omega)] at hd; exact absurd hd (by decide)
  have := dgF_in (T := T) n (p + 1) (10 * v + hrT T p - 48) (by omega)
  rw [h] at this
  have := this.1
  omega
theorem okP_at {T : jT} {sub : Option (Nat → jR)} (hs : ∀ s, sub = some s → okP T s) : okP T (atF T sub) := by
  intro a ha
  have hk := (skT_in (T := T) a).1
  have hk2 := (skT_in (T := T) a).2 ha
  unfold atF
  by_cases c1 : fDg (nxT T a) = 1
  · rw [if_pos c1]
    have h1 := dgF_in (T := T) 4 (skT T a) 0 hk2
    have h2 := fun q w => dgF_4 (T := T) (p := skT T a) (q := q) (v := 0) (w := w) (n := 3) c1
    revert h1 h2
    cases dgF T 4 (skT T a) 0 with
    | inl w => exact fun h _ => h
    | inr x => exact fun h h2 => ⟨by have := h2 x.1 x.2 rfl; show a + 1 ≤ x.1; omega, by have := h2 x.1 x.2 rfl; show a < x.1; omega, h.2⟩
  · rw [if_neg c1]
    by_cases c2 : fLt (nxT T a) ≠ -1
    · rw [if_pos c2]
      have : skT T a < T.2 := nxT_lt (fun z => by rw [z] at c2; exact c2 (by decide))
      exact ⟨by show a + 1 ≤ _; omega, by omega, by omega⟩
    · rw [if_neg c2]
      by_cases c3 : nxT T a = 91
      · rw [if_pos c3]
        have hl : skT T a < T.2 := nxT_lt (by rw [c3]; decide)
        cases hsub : sub with
        | none => exact hk2
        | some s =>
          have h1 := hs s hsub (skT T a + 1) (by omega)
          dsimp only
          revert h1
          cases s (skT T a + 1) with
          | inl w => exact fun h => h
          | inr x =>
            obtain ⟨q, l⟩ := x
            intro h1
            obtain ⟨g1, g2, g3⟩ := h1
            have hq := (skT_in (T := T) q).1
            dsimp only
            by_cases c4 : nxT T q = 93
            · rw [if_pos c4]
              have : skT T q < T.2 := nxT_lt (by rw [c4]; decide)
              exact ⟨by omega, by omega, by omega⟩
            · rw [if_neg c4]
              exact (skT_in (T := T) q).2 g3
      · rw [if_neg c3]
        exact hk2
theorem okR_lp {T : jT} {o : Int → Bool} {s : Nat → jR} (hs : okP T s) (ho : o (-1) = false) {a0 : Nat} : ∀ f a l, a0 + l.length ≤ a → a0 < a → a ≤ T.2 → okR T a0 (lpF T o s f a l)
  | 0, a, l, h1, h2, h3 => by
    have hk := (skT_in (T := T) a).1
    exact ⟨by omega, by omega, (skT_in (T := T) a).2 h3⟩
  | f + 1, a, l, h1, h2, h3 => by
    have hk := (skT_in (T := T) a).1
    simp only [lpF]
    by_cases c : o (nxT T a) = true
    · rw [if_pos c]
      have hl : skT T a < T.2 := nxT_lt (fun z => by rw [z, ho] at c; exact absurd c (by decide))
      have h := hs (skT T a + 1) (by omega)
      revert h
      cases s (skT T a + 1) with
      | inl w => exact fun h => h
      | inr x =>
        obtain ⟨q, l'⟩ := x
        intro h
        obtain ⟨g1, g2, g3⟩ := h
        exact okR_lp hs ho f q _ (by rw [List.length_append, List.length_append]; show a0 + (l.length + l'.length + 1) ≤ q; omega) (by omega) g3
    · rw [if_neg c]
      exact ⟨by omega, by omega, (skT_in (T := T) a).2 h3⟩
theorem okR_ch {T : jT} {o : Int → Bool} {s : Nat → jR} {r : jR} {a0 : Nat} (hs : okP T s) (ho : o (-1) = false) (hr : okR T a0 r) : okR T a0 (chB T o s r) := by
  unfold chB
  revert hr
  cases r with
  | inl w => exact fun h => h
  | inr x => exact fun h => okR_lp hs ho _ _ _ h.1 h.2.1 h.2.2
theorem okP_tm {T : jT} {sub : Option (Nat → jR)} (hs : ∀ s, sub = some s → okP T s) : okP T (tmF T sub) := fun a ha => okR_ch (okP_at hs) rfl (okP_at hs a ha)
theorem okP_sm {T : jT} {sub : Option (Nat → jR)} (hs : ∀ s, sub = some s → okP T s) : okP T (smF T sub) := fun a ha => okR_ch (okP_tm hs) rfl (okP_tm hs a ha)
theorem okP_smK {T : jT} : ∀ k, okP T (smK T k)
  | 0 => okP_sm (fun s h => by cases h)
  | k + 1 => okP_sm (fun s h => by cases h; exact okP_smK k)
theorem okR_cm {T : jT} {s : Nat → jR} {r : jR} {a0 : Nat} (hs : okP T s) (hr : okR T a0 r) : okR T a0 (cmF T s r) := by
  unfold cmF
  revert hr
  cases r with
  | inl w => exact fun h => h
  | inr x =>
    obtain ⟨q, l⟩ := x
    intro hr
    obtain ⟨h1, h2, h3⟩ := hr
    have hk := (skT_in (T := T) q).1
    dsimp only
    by_cases c : fSg (nxT T q) = 1
    · rw [if_pos c]
      have hl : skT T q < T.2 := nxT_lt (fun z => by rw [z] at c; exact absurd c (by decide))
      have h := hs (skT T q + 1) (by omega)
      revert h
      cases s (skT T q + 1) with
      | inl w => exact fun h => h
      | inr y =>
        obtain ⟨q', l'⟩ := y
        intro h
        obtain ⟨g1, g2, g3⟩ := h
        exact ⟨by rw [List.length_append, List.length_append]; show a0 + (l.length + l'.length + 1) ≤ q'; omega, by omega, g3⟩
    · rw [if_neg c]
      exact (skT_in (T := T) q).2 h3
theorem okR_cd {T : jT} {u : Nat → jR} {r : jR} {a0 : Nat} (hu : okP T u) (hr : okR T a0 r) : okR T a0 (cdF T u r) := okR_ch (fun b hb => okR_ch hu rfl (hu b hb)) rfl (okR_ch hu rfl hr)
theorem okP_un {T : jT} {s : Nat → jR} {sub : Option (Nat → jR)} (hs : okP T s) (hu : ∀ u, sub = some u → okP T u) : okP T (unF T s sub) := by
  intro a ha
  have hk := (skT_in (T := T) a).1
  have hk2 := (skT_in (T := T) a).2 ha
  unfold unF
  by_cases c1 : nxT T a = 33
  · rw [if_pos c1]
    have hl : skT T a < T.2 := nxT_lt (by rw [c1]; decide)
    cases hsub : sub with
    | none => exact hk2
    | some u =>
      have h1 := hu u hsub (skT T a + 1) (by omega)
      dsimp only
      revert h1
      cases u (skT T a + 1) with
      | inl w => exact fun h => h
      | inr x =>
        obtain ⟨q, l⟩ := x
        intro h1
        obtain ⟨g1, g2, g3⟩ := h1
        exact ⟨by rw [List.length_append]; show a + (l.length + 1) ≤ q; omega, by omega, g3⟩
  · rw [if_neg c1]
    by_cases c2 : nxT T a = 40
    · rw [if_pos c2]
      have hl : skT T a < T.2 := nxT_lt (by rw [c2]; decide)
      cases hsub : sub with
      | none => exact hk2
      | some u =>
        have h1 := okR_cd (hu u hsub) (hu u hsub (skT T a + 1) (by omega))
        dsimp only
        revert h1
        cases cdF T u (u (skT T a + 1)) with
        | inl w => exact fun h => h
        | inr x =>
          obtain ⟨q, l⟩ := x
          intro h1
          obtain ⟨g1, g2, g3⟩ := h1
          have hq := (skT_in (T := T) q).1
          dsimp only
          by_cases c4 : nxT T q = 41
          · rw [if_pos c4]
            have : skT T q < T.2 := nxT_lt (by rw [c4]; decide)
            exact ⟨by omega, by omega, by omega⟩
          · rw [if_neg c4]
            exact (skT_in (T := T) q).2 g3
    · rw [if_neg c2]
      exact okR_cm hs (hs a ha)
theorem okP_unK {T : jT} : ∀ k, okP T (unK T k)
  | 0 => okP_un (okP_smK 0) (fun s h => by cases h)
  | k + 1 => okP_un (okP_smK (k + 1)) (fun s h => by cases h; exact okP_unK k)
def okC (T : jT) (a : Nat) (r : jC) : Prop := match r with
  | .inl w => w ≤ T.2
  | .inr (q, lc, ls) => a + (lc.length + ls.length) ≤ q ∧ a < q ∧ q ≤ T.2
theorem okC_qs {T : jT} {r : jR} {a0 : Nat} (hr : okR T a0 r) : okC T a0 (qsF T r) := by
  unfold qsF
  revert hr
  cases r with
  | inl w => exact fun h => h
  | inr x =>
    obtain ⟨q, lc⟩ := x
    intro hr
    obtain ⟨h1, h2, h3⟩ := hr
    have hk := (skT_in (T := T) q).1
    dsimp only
    by_cases c : nxT T q = 63
    · rw [if_pos c]
      have hl : skT T q < T.2 := nxT_lt (by rw [c]; decide)
      have h := okP_smK (T := T) 6 (skT T q + 1) (by omega)
      revert h
      cases smK T 6 (skT T q + 1) with
      | inl w => exact fun h => h
      | inr y =>
        obtain ⟨q', l'⟩ := y
        intro h
        obtain ⟨g1, g2, g3⟩ := h
        exact ⟨by omega, by omega, g3⟩
    · rw [if_neg c]
      exact (skT_in (T := T) q).2 h3
theorem okC_b {T : jT} {b : Nat} (hb : b ≤ T.2) : okC T b (clB T b) := by
  unfold clB
  by_cases c : nxT T b = 33 ∨ nxT T b = 40
  · rw [if_pos c]
    exact okC_qs (okR_cd (okP_unK 6) (okP_unK 6 b hb))
  · rw [if_neg c]
    have h := okP_smK (T := T) 6 b hb
    revert h
    cases smK T 6 b with
    | inl w => exact fun h => h
    | inr x =>
      obtain ⟨q, l⟩ := x
      intro h
      dsimp only
      by_cases c2 : fSg (nxT T q) = 1
      · rw [if_pos c2]
        exact okC_qs (okR_cd (okP_unK 6) (okR_cm (okP_smK 6) h))
      · rw [if_neg c2]
        obtain ⟨g1, g2, g3⟩ := h
        have hk := (skT_in (T := T) q).1
        exact ⟨by show b + (0 + l.length) ≤ _; omega, by omega, (skT_in (T := T) q).2 g3⟩
theorem okC_cl {T : jT} {a : Nat} (ha : a ≤ T.2) : match clF T a with
    | .inl w => w ≤ T.2
    | .inr (q, lc, ls) => a + (lc.length + ls.length) + 2 ≤ q ∧ a + 3 ≤ q ∧ q ≤ T.2 := by
  have hk := (skT_in (T := T) a).1
  unfold clF
  by_cases c1 : nxT T a ≠ 121
  · rw [if_pos c1]
    exact (skT_in (T := T) a).2 ha
  · rw [if_neg c1]
    have hl : skT T a < T.2 := nxT_lt (by rw [Classical.not_not.mp c1]; decide)
    have hk2 := (skT_in (T := T) (skT T a + 1)).1
    by_cases c2 : nxT T (skT T a + 1) ≠ 58
    · rw [if_pos c2]
      exact (skT_in (T := T) _).2 (by omega)
    · rw [if_neg c2]
      have hl2 : skT T (skT T a + 1) < T.2 := nxT_lt (by rw [Classical.not_not.mp c2]; decide)
      have h := okC_b (T := T) (b := skT T (skT T a + 1) + 1) (by omega)
      revert h
      cases clB T (skT T (skT T a + 1) + 1) with
      | inl w => exact fun h => h
      | inr x =>
        obtain ⟨q, lc, ls⟩ := x
        intro h
        obtain ⟨g1, g2, g3⟩ := h
        exact ⟨by omega, by omega, g3⟩
