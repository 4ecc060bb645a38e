/-! THE TEXTS: the code that is read is of the right sorts -/
def scL : List (Int × Int) → List Bool → Option (List Bool)
  | [], ty => some ty
  | x :: r, ty => match tyC x.1 x.2 ty with
    | some t => scL r t
    | none => none
theorem scL_app : ∀ {l l' : List (Int × Int)} {ty t : List Bool}, scL l ty = some t → scL (l ++ l') ty = scL l' t
  | [], l', ty, t, h => by
    simp only [scL, Option.some.injEq] at h
    rw [h]
    rfl
  | x :: r, l', ty, t, h => by
    simp only [scL] at h
    show scL (x :: (r ++ l')) ty = _
    simp only [scL]
    cases hx : tyC x.1 x.2 ty with
    | none => rw [hx] at h; cases h
    | some t' =>
      rw [hx] at h
      exact scL_app h
/-- rows that hold a code from a place on -/
def RowL (sg vl : Nat → Int) : Nat → List (Int × Int) → Prop
  | _, [] => True
  | i, x :: r => sg i = x.1 ∧ vl i = x.2 ∧ RowL sg vl (i + 1) r
theorem RowL.cg {sg vl sg' vl' : Nat → Int} : ∀ {l : List (Int × Int)} {i : Nat}, RowL sg vl i l → (∀ j, i ≤ j → j < i + l.length → sg' j = sg j ∧ vl' j = vl j) → RowL sg' vl' i l
  | [], _, _, _ => trivial
  | x :: r, i, h, e => by
    obtain ⟨h1, h2, h3⟩ := h
    obtain ⟨e1, e2⟩ := e i (Nat.le_refl _) (by simp)
    exact ⟨e1.trans h1, e2.trans h2, h3.cg (fun j h4 h5 => e j (by omega) (by simp only [List.length_cons]; omega))⟩
theorem RowL.app {sg vl : Nat → Int} : ∀ {l l' : List (Int × Int)} {i : Nat}, RowL sg vl i l → RowL sg vl (i + l.length) l' → RowL sg vl i (l ++ l')
  | [], _, _, _, h' => h'
  | x :: r, l', i, h, h' => ⟨h.1, h.2.1, RowL.app h.2.2 (by rw [show i + 1 + r.length = i + (x :: r).length by simp only [List.length_cons]; omega]; exact h')⟩
theorem RowL.l {sg vl : Nat → Int} : ∀ {l l' : List (Int × Int)} {i : Nat}, RowL sg vl i (l ++ l') → RowL sg vl i l ∧ RowL sg vl (i + l.length) l'
  | [], _, _, h => ⟨trivial, h⟩
  | x :: r, l', i, h => by
    obtain ⟨h1, h2, h3⟩ := h
    obtain ⟨g1, g2⟩ := RowL.l (l := r) (l' := l') h3
    refine ⟨⟨h1, h2, g1⟩, ?_⟩
    rw [show i + (x :: r).length = i + 1 + r.length by simp only [List.length_cons]; omega]
    exact g2
theorem RowL.get {sg vl sg' vl' : Nat → Int} : ∀ {l : List (Int × Int)} {i : Nat}, RowL sg vl i l → RowL sg' vl' i l → ∀ j, i ≤ j → j < i + l.length → sg j = sg' j ∧ vl j = vl' j
  | [], i, _, _, j, h1, h2 => absurd h2 (by simp only [List.length_nil]; omega)
  | x :: r, i, h, h', j, h1, h2 => by
    by_cases c : j = i
    · rw [c]; exact ⟨h.1.trans h'.1.symm, h.2.1.trans h'.2.1.symm⟩
    · exact RowL.get h.2.2 h'.2.2 j (by omega) (by simp only [List.length_cons] at h2; omega)
theorem scC_L {sg vl : Nat → Int} : ∀ {l : List (Int × Int)} {i : Nat} {ty : List Bool}, RowL sg vl i l → scC sg vl l.length i ty = scL l ty
  | [], _, _, _ => rfl
  | x :: r, i, ty, h => by
    obtain ⟨h1, h2, h3⟩ := h
    show scC sg vl (r.length + 1) i ty = scL (x :: r) ty
    simp only [scC, scL]
    rw [h1, h2]
    cases tyC x.1 x.2 ty with
    | none => rfl
    | some t => exact scC_L h3
def tyR (B : Nat) (t : Bool) (r : jR) : Prop := match r with
  | .inl _ => True
  | .inr (_, l) => ∀ ty : List Bool, ty.length + B ≤ 60 → scL l ty = some (t :: ty)
theorem tyR.mono {B B' : Nat} {t : Bool} {r : jR} (h : tyR B t r) (hb : B ≤ B') : tyR B' t r := by
  revert h
  cases r with
  | inl w => exact fun h => h
  | inr x => exact fun h ty ht => h ty (by omega)
theorem dgF_v {T : jT} : ∀ (n p : Nat) (v : Int), 0 ≤ v → (v + 1) * ((10 ^ n : Nat) : Int) ≤ 10000 → match dgF T n p v with
    | .inl _ => True
    | .inr (_, w) => 0 ≤ w ∧ w ≤ 9999
  | 0, p, v, h0, h1 => by
    have h1 : (v + 1) * 1 ≤ 10000 := h1
    simp only [dgF]
    by_cases c : fDg (hrT T p) = 1
    · rw [if_pos c]; trivial
    · rw [if_neg c]; exact ⟨h0, by omega⟩
  | n + 1, p, v, h0, h1 => by
    simp only [dgF]
    by_cases c : fDg (hrT T p) = 1
    · rw [if_pos c]
      have hd := fDg_1.mp c
      refine dgF_v n (p + 1) _ (by omega) ?_
      have e : (v + 1) * ((10 ^ (n + 1) : Nat) : Int) = (10 * v + 10) * ((10 ^ n : Nat) : Int) := by
        rw [Nat.pow_succ, Int.natCast_mul]
        rw [show (10 * v + 10) = (v + 1) * 10 by omega, Int.mul_assoc, Int.mul_comm ((10 ^ n : Nat) : Int)]
        rfl
      rw [e] at h1
      refine Int.le_trans (Int.mul_le_mul_of_nonneg_right (by omega) (Int.natCast_nonneg _)) h1
    · rw [if_neg c]
      have hp : (1 : Int) ≤ ((10 ^ (n + 1) : Nat) : Int) := by
        have : 0 < 10 ^ (n + 1) := Nat.pow_pos (by decide)
        omega
      have := Int.mul_le_mul_of_nonneg_left hp (show 0 ≤ v + 1 by omega)
      exact ⟨h0, by omega⟩
theorem fLt_in {c : Int} (h : fLt c ≠ -1) : 0 ≤ fLt c ∧ fLt c < 6 := by
  unfold fLt at h ⊢
  by_cases h1 : c = 115
  · rw [if_pos h1]; decide
  rw [if_neg h1] at h ⊢
  by_cases h2 : c = 107
  · rw [if_pos h2]; decide
  rw [if_neg h2] at h ⊢
  by_cases h3 : c = 97
  · rw [if_pos h3]; decide
  rw [if_neg h3] at h ⊢
  by_cases h4 : c = 100
  · rw [if_pos h4]; decide
  rw [if_neg h4] at h ⊢
  by_cases h5 : c = 119
  · rw [if_pos h5]; decide
  rw [if_neg h5] at h ⊢
  by_cases h6 : c = 104
  · rw [if_pos h6]; decide
  rw [if_neg h6] at h
  exact absurd rfl h
theorem scL_1 {x : Int × Int} {ty t : List Bool} (h : tyC x.1 x.2 ty = some t) : scL [x] ty = some t := by
  simp only [scL]
  rw [h]
theorem tyR_at {T : jT} {sub : Option (Nat → jR)} {B : Nat} (hB : 1 ≤ B) (hs : ∀ s, sub = some s → ∀ a, tyR B false (s a)) (a : Nat) : tyR B false (atF T sub a) := by
  unfold atF
  by_cases c1 : fDg (nxT T a) = 1
  · rw [if_pos c1]
    have h := dgF_v (T := T) 4 (skT T a) 0 (Int.le_refl _) (by decide)
    revert h
    cases dgF T 4 (skT T a) 0 with
    | inl w => exact fun _ => trivial
    | inr x =>
      intro h ty hty
      obtain ⟨h1, h2⟩ := h
      refine scL_1 ?_
      unfold tyC
      rw [if_pos rfl, if_pos ⟨h1, h2, by omega⟩]
  · rw [if_neg c1]
    by_cases c2 : fLt (nxT T a) ≠ -1
    · rw [if_pos c2]
      intro ty hty
      obtain ⟨h1, h2⟩ := fLt_in c2
      refine scL_1 ?_
      unfold tyC
      rw [if_neg (show ¬ (108 : Int) = 110 by decide), if_pos rfl, if_pos ⟨h1, h2, by omega⟩]
    · rw [if_neg c2]
      by_cases c3 : nxT T a = 91
      · rw [if_pos c3]
        cases hsub : sub with
        | none => exact trivial
        | some s =>
          have h1 := hs s hsub (skT T a + 1)
          dsimp only
          revert h1
          cases s (skT T a + 1) with
          | inl w => exact fun _ => trivial
          | inr x =>
            obtain ⟨q, l⟩ := x
            intro h1
            dsimp only
            by_cases c4 : nxT T q = 93
            · rw [if_pos c4]; exact h1
            · rw [if_neg c4]; exact trivial
      · rw [if_neg c3]; exact trivial
theorem tyR_lp {T : jT} {o : Int → Bool} {s : Nat → jR} {B Bs : Nat} {t : Bool} (hs : ∀ a, tyR Bs t (s a)) (hB : Bs + 1 ≤ B) (ho : ∀ c ty, o c = true → tyC c 0 (t :: t :: ty) = some (t :: ty)) : ∀ f a l, (∀ ty : List Bool, ty.length + B ≤ 60 → scL l ty = some (t :: ty)) → tyR B t (lpF T o s f a l)
  | 0, a, l, h => h
  | f + 1, a, l, h => by
    simp only [lpF]
    by_cases c : o (nxT T a) = true
    · rw [if_pos c]
      have h1 := hs (skT T a + 1)
      revert h1
      cases s (skT T a + 1) with
      | inl w => exact fun _ => trivial
      | inr x =>
        obtain ⟨q, l'⟩ := x
        intro h1
        refine tyR_lp hs hB ho f q _ (fun ty hty => ?_)
        rw [List.append_assoc, scL_app (h ty hty), scL_app (h1 (t :: ty) (by simp only [List.length_cons]; omega))]
        exact scL_1 (ho _ _ c)
    · rw [if_neg c]
      exact h
theorem tyR_ch {T : jT} {o : Int → Bool} {s : Nat → jR} {r : jR} {B Bs : Nat} {t : Bool} (hs : ∀ a, tyR Bs t (s a)) (hB : Bs + 1 ≤ B) (ho : ∀ c ty, o c = true → tyC c 0 (t :: t :: ty) = some (t :: ty)) (hr : tyR B t r) : tyR B t (chB T o s r) := by
  unfold chB
  revert hr
  cases r with
  | inl w => exact fun _ => trivial
  | inr x => exact fun h => tyR_lp hs hB ho _ _ _ h
theorem oM_ty (c : Int) (ty : List Bool) (h : oM c = true) : tyC c 0 (false :: false :: ty) = some (false :: ty) := by
  unfold oM at h
  rw [Bool.or_eq_true, beq_iff_eq, beq_iff_eq] at h
  rcases h with rfl | rfl <;> rfl
theorem oA_ty (c : Int) (ty : List Bool) (h : oA c = true) : tyC c 0 (false :: false :: ty) = some (false :: ty) := by
  unfold oA at h
  rw [Bool.or_eq_true, beq_iff_eq, beq_iff_eq] at h
  rcases h with rfl | rfl <;> rfl
theorem oN_ty (c : Int) (ty : List Bool) (h : oN c = true) : tyC c 0 (true :: true :: ty) = some (true :: ty) := by
  unfold oN at h
  rw [beq_iff_eq] at h
  rw [h]; rfl
theorem oO_ty (c : Int) (ty : List Bool) (h : oO c = true) : tyC c 0 (true :: true :: ty) = some (true :: ty) := by
  unfold oO at h
  rw [beq_iff_eq] at h
  rw [h]; rfl
theorem fSg_ty {c : Int} {ty : List Bool} (h : fSg c = 1) : tyC c 0 (false :: false :: ty) = some (true :: ty) := by
  unfold fSg at h
  by_cases z : c = 61 ∨ c = 60 ∨ c = 62
  · rcases z with rfl | rfl | rfl <;> rfl
  · rw [if_neg z] at h; exact absurd h (by decide)
theorem tyR_sm {T : jT} {sub : Option (Nat → jR)} {B : Nat} (hB : 1 ≤ B) (hs : ∀ s, sub = some s → ∀ a, tyR B false (s a)) (a : Nat) : tyR (B + 2) false (smF T sub a) := by
  have h1 := tyR_at (T := T) hB hs
  have h2 : ∀ a, tyR (B + 1) false (tmF T sub a) := fun a => tyR_ch h1 (Nat.le_refl _) oM_ty ((h1 a).mono (by omega))
  exact tyR_ch h2 (Nat.le_refl _) oA_ty ((h2 a).mono (by omega))
theorem tyR_smK {T : jT} : ∀ k a, tyR (2 * k + 3) false (smK T k a)
  | 0, a => tyR_sm (B := 1) (by decide) (fun s h => by cases h) a
  | k + 1, a => tyR_sm (B := 2 * k + 3) (by omega) (fun s h => by cases h; exact tyR_smK k) a
theorem tyR_cm {T : jT} {s : Nat → jR} {r : jR} {B Bs : Nat} (hs : ∀ a, tyR Bs false (s a)) (hB : Bs + 1 ≤ B) (hr : tyR B false r) : tyR B true (cmF T s r) := by
  unfold cmF
  revert hr
  cases r with
  | inl w => exact fun _ => trivial
  | inr x =>
    obtain ⟨q, l⟩ := x
    intro hr
    dsimp only
    by_cases c : fSg (nxT T q) = 1
    · rw [if_pos c]
      have h1 := hs (skT T q + 1)
      revert h1
      cases s (skT T q + 1) with
      | inl w => exact fun _ => trivial
      | inr y =>
        obtain ⟨q', l'⟩ := y
        intro h1 ty hty
        rw [List.append_assoc, scL_app (hr ty hty), scL_app (h1 (false :: ty) (by simp only [List.length_cons]; omega))]
        exact scL_1 (fSg_ty c)
    · rw [if_neg c]; exact trivial
theorem tyR_cd {T : jT} {u : Nat → jR} {r : jR} {B Bu : Nat} (hu : ∀ a, tyR Bu true (u a)) (hB : Bu + 2 ≤ B) (hr : tyR B true r) : tyR B true (cdF T u r) :=
  tyR_ch (Bs := Bu + 1) (fun b => tyR_ch hu (Nat.le_refl _) oN_ty ((hu b).mono (by omega))) (by omega) oO_ty (tyR_ch hu (by omega) oN_ty hr)
theorem tyR_un {T : jT} {s : Nat → jR} {sub : Option (Nat → jR)} {B Bs : Nat} (hs : ∀ a, tyR Bs false (s a)) (hBs : Bs + 1 ≤ B) (hu : ∀ u, sub = some u → ∃ Bu, Bu + 2 ≤ B ∧ ∀ a, tyR Bu true (u a)) (a : Nat) : tyR B true (unF T s sub a) := by
  unfold unF
  by_cases c1 : nxT T a = 33
  · rw [if_pos c1]
    cases hsub : sub with
    | none => exact trivial
    | some u =>
      obtain ⟨Bu, b1, b2⟩ := hu u hsub
      have h1 := b2 (skT T a + 1)
      dsimp only
      revert h1
      cases u (skT T a + 1) with
      | inl w => exact fun _ => trivial
      | inr x =>
        obtain ⟨q, l⟩ := x
        intro h1 ty hty
        rw [scL_app (h1 ty (by omega))]
        exact scL_1 rfl
  · rw [if_neg c1]
    by_cases c2 : nxT T a = 40
    · rw [if_pos c2]
      cases hsub : sub with
      | none => exact trivial
      | some u =>
        obtain ⟨Bu, b1, b2⟩ := hu u hsub
        have h1 := tyR_cd (T := T) (B := B) b2 b1 ((b2 (skT T a + 1)).mono (by omega))
        dsimp only
        revert h1
        cases cdF T u (u (skT T a + 1)) with
        | inl w => exact fun _ => trivial
        | inr x =>
          obtain ⟨q, l⟩ := x
          intro h1
          dsimp only
          by_cases c4 : nxT T q = 41
          · rw [if_pos c4]; exact h1
          · rw [if_neg c4]; exact trivial
    · rw [if_neg c2]
      exact tyR_cm hs hBs ((hs a).mono (by omega))
theorem tyR_unK {T : jT} : ∀ k a, tyR (5 * k + 4) true (unK T k a)
  | 0, a => tyR_un (fun a => tyR_smK 0 a) (by omega) (fun s h => by cases h) a
  | k + 1, a => tyR_un (fun a => tyR_smK (k + 1) a) (by omega) (fun s h => by cases h; exact ⟨5 * k + 4, by omega, tyR_unK k⟩) a
def tyCl (r : jC) : Prop := match r with
  | .inl _ => True
  | .inr (_, lc, ls) => (lc = [] ∨ scL lc [] = some [true]) ∧ scL ls [] = some [false]
theorem tyCl_qs {T : jT} {r : jR} (h : tyR 60 true r) : tyCl (qsF T r) := by
  unfold qsF
  revert h
  cases r with
  | inl w => exact fun _ => trivial
  | inr x =>
    obtain ⟨q, lc⟩ := x
    intro h
    dsimp only
    by_cases c : nxT T q = 63
    · rw [if_pos c]
      have h1 := tyR_smK (T := T) 6 (skT T q + 1)
      revert h1
      cases smK T 6 (skT T q + 1) with
      | inl w => exact fun _ => trivial
      | inr y => exact fun h1 => ⟨Or.inr (h [] (by decide)), h1 [] (by decide)⟩
    · rw [if_neg c]; exact trivial
theorem tyCl_cl {T : jT} {a : Nat} : tyCl (clF T a) := by
  unfold clF
  by_cases c1 : nxT T a ≠ 121
  · rw [if_pos c1]; exact trivial
  rw [if_neg c1]
  by_cases c2 : nxT T (skT T a + 1) ≠ 58
  · rw [if_pos c2]; exact trivial
  rw [if_neg c2]
  unfold clB
  by_cases c : nxT T (skT T (skT T a + 1) + 1) = 33 ∨ nxT T (skT T (skT T a + 1) + 1) = 40
  · rw [if_pos c]
    exact tyCl_qs (tyR_cd (fun a => tyR_unK 6 a) (by decide) ((tyR_unK 6 _).mono (by decide)))
  · rw [if_neg c]
    have h := tyR_smK (T := T) 6 (skT T (skT T a + 1) + 1)
    revert h
    cases smK T 6 (skT T (skT T a + 1) + 1) with
    | inl w => exact fun _ => trivial
    | inr x =>
      obtain ⟨q, l⟩ := x
      intro h
      dsimp only
      by_cases c3 : fSg (nxT T q) = 1
      · rw [if_pos c3]
        exact tyCl_qs (tyR_cd (fun a => tyR_unK 6 a) (by decide) (tyR_cm (fun a => tyR_smK 6 a) (by decide) (h.mono (by decide))))
      · rw [if_neg c3]
        exact ⟨Or.inl rfl, h [] (by decide)⟩
/-- a law's clauses lie in its code, one behind the other -/
def okL (L : jL) : Prop := ∀ x, x ∈ L.2 → ∃ l0 lc ls l1, L.1 = l0 ++ (lc ++ (ls ++ l1)) ∧ x = (l0.length, l0.length + lc.length, l0.length + (lc.length + ls.length)) ∧ (lc = [] ∨ scL lc [] = some [true]) ∧ scL ls [] = some [false]
theorem okL.add {L : jL} {lc ls : List (Int × Int)} (h : okL L) (h1 : lc = [] ∨ scL lc [] = some [true]) (h2 : scL ls [] = some [false]) : okL (L.1 ++ (lc ++ ls), L.2 ++ [(L.1.length, L.1.length + lc.length, L.1.length + (lc.length + ls.length))]) := by
  intro x hx
  rw [List.mem_append] at hx
  rcases hx with hx | hx
  · obtain ⟨l0, c, s, l1, e1, e2, e3, e4⟩ := h x hx
    exact ⟨l0, c, s, l1 ++ (lc ++ ls), by show L.1 ++ (lc ++ ls) = _; rw [e1]; simp only [List.append_assoc], e2, e3, e4⟩
  · rw [List.mem_singleton] at hx
    exact ⟨L.1, lc, ls, [], by show L.1 ++ (lc ++ ls) = _; rw [List.append_nil], hx, h1, h2⟩
theorem lwF_ok {T : jT} : ∀ f a L, okL L → a ≤ T.2 → L.1.length ≤ a → 4 * L.2.length ≤ a → match lwF T f a L with
    | .inl w => w ≤ T.2
    | .inr L' => okL L' ∧ L'.1.length ≤ T.2 ∧ 4 * L'.2.length ≤ T.2 + 4
  | 0, a, L, h, ha, _, _ => ha
  | f + 1, a, L, h, ha, hl, h4 => by
    simp only [lwF]
    have h1 := okC_cl (T := T) ha
    have h2 := tyCl_cl (T := T) (a := a)
    revert h1 h2
    cases clF T a with
    | inl w => exact fun h _ => h
    | inr x =>
      obtain ⟨q, lc, ls⟩ := x
      intro h1 h2
      obtain ⟨g1, g2, g3⟩ := h1
      have hk := (skT_in (T := T) q).1
      have e1 : (L.1 ++ (lc ++ ls)).length = L.1.length + (lc.length + ls.length) := by rw [List.length_append, List.length_append]
      have e2 : (L.2 ++ [(L.1.length, L.1.length + lc.length, L.1.length + (lc.length + ls.length))]).length = L.2.length + 1 := by rw [List.length_append]; rfl
      dsimp only
      by_cases c1 : nxT T q = -1
      · rw [if_pos c1]
        exact ⟨h.add h2.1 h2.2, by show (L.1 ++ (lc ++ ls)).length ≤ _; omega, by show 4 * (L.2 ++ _).length ≤ _; omega⟩
      · rw [if_neg c1]
        by_cases c2 : nxT T q = 59
        · rw [if_pos c2]
          have hq : skT T q < T.2 := nxT_lt (by rw [c2]; decide)
          exact lwF_ok f _ _ (h.add h2.1 h2.2) (by omega) (by show (L.1 ++ (lc ++ ls)).length ≤ _; omega) (by show 4 * (L.2 ++ _).length ≤ _; omega)
        · rw [if_neg c2]
          exact (skT_in (T := T) q).2 g3
theorem lwT_ok {T : jT} : match lwT T with
    | .inl w => w ≤ T.2
    | .inr L' => okL L' ∧ L'.1.length ≤ T.2 ∧ 4 * L'.2.length ≤ T.2 + 4 := lwF_ok _ 0 ([], []) (fun x hx => by cases hx) (Nat.zero_le _) (Nat.le_refl _) (Nat.le_refl _)
