/-! FRAMES: all cells but some rows are as they were -/
def Fr (P : Nat → Prop) (M M' : jM) : Prop := M'.1 = M.1 ∧ M'.2.1 = M.2.1 ∧ M'.2.2.1 = M.2.2.1 ∧ M'.2.2.2.2.2 = M.2.2.2.2.2 ∧ ∀ r, ¬ P r → iv M' r = iv M r ∧ lg M' r = lg M r
section Frames
variable {P P' : Nat → Prop} {M M1 M2 M' : jM}
theorem Fr.refl : Fr P M M := ⟨rfl, rfl, rfl, rfl, fun _ _ => ⟨rfl, rfl⟩⟩
theorem Fr.trans (h : Fr P M M1) (k : Fr P M1 M2) : Fr P M M2 := ⟨k.1.trans h.1, k.2.1.trans h.2.1, k.2.2.1.trans h.2.2.1, k.2.2.2.1.trans h.2.2.2.1, fun r hr => ⟨(k.2.2.2.2 r hr).1.trans (h.2.2.2.2 r hr).1, (k.2.2.2.2 r hr).2.trans (h.2.2.2.2 r hr).2⟩⟩
theorem Fr.mono (h : Fr P M M') (hp : ∀ r, P r → P' r) : Fr P' M M' := ⟨h.1, h.2.1, h.2.2.1, h.2.2.2.1, fun r hr => h.2.2.2.2 r (fun q => hr (hp r q))⟩
theorem Fr.eiv (h : Fr P M M') {r : Nat} (hr : ¬ P r) : iv M' r = iv M r := (h.2.2.2.2 r hr).1
theorem Fr.elg (h : Fr P M M') {r : Nat} (hr : ¬ P r) : lg M' r = lg M r := (h.2.2.2.2 r hr).2
theorem Fr.erv (h : Fr P M M') : rv M' = rv M := h.2.2.2.1
theorem Fr.ekd (h : Fr P M M') : kd M' = kd M := h.2.2.1
theorem Fr.emx (h : Fr P M M') : mx M' = mx M := h.1
theorem Fr.ems (h : Fr P M M') : ms M' = ms M := h.2.1
theorem Fr.shp (h : Fr P M M') (hS : Shp M) : Shp M' := ⟨by rw [h.emx]; exact hS.1, by rw [h.ekd]; exact hS.2.1, by rw [h.erv]; exact hS.2.2⟩
theorem Fr.row (h : Fr P M M') {t n r : Nat} (hr : jro M t n r) : jro M' t n r := by unfold jro; rw [h.emx, h.ekd]; exact hr
theorem Fr.law (h : Fr P M M') {g : Nat} (hg : LawAt M g) : LawAt M' g := by unfold LawAt; rw [h.emx, h.ekd, h.erv]; exact hg
theorem fr_wi {f : Nat → Nat → Int} (h : ∀ r, ¬ P r → f r = iv M r) : Fr P M (wi M f) := ⟨rfl, rfl, rfl, rfl, fun r hr => ⟨h r hr, rfl⟩⟩
theorem fr_ptv {n r : Nat} {i v : Int} (h : P r) : Fr P M (ptv M n r i v) := by
  rw [ptv_wi]
  refine fr_wi (fun r' hr => ?_)
  funext k
  exact if_neg (fun q => hr (by rw [q.1]; exact h))
theorem fr_si {r i : Nat} {v : Int} (h : P r) : Fr P M (si M r i v) := by
  rw [si_wi]
  refine fr_wi (fun r' hr => ?_)
  funext k
  exact if_neg (fun q => hr (by rw [q.1]; exact h))
theorem fr_cpr {f t k : Nat} (h : P t) : Fr P M (cpr M f t k) := by
  rw [cpr_wi]
  refine fr_wi (fun r' hr => ?_)
  funext k
  exact if_neg (fun q => hr (by rw [q.1]; exact h))
theorem fr_ptl {n r : Nat} {i v : Int} (h : P r) : Fr P M (ptl M n r i v) := ⟨rfl, rfl, rfl, rfl, fun r' hr => ⟨rfl, by
  funext k
  exact if_neg (fun q => hr (by rw [q.1]; exact h))⟩⟩
theorem fr_sl {r i : Nat} {v : Int} (h : P r) : Fr P M (sl M r i v) := ⟨rfl, rfl, rfl, rfl, fun r' hr => ⟨rfl, by
  funext k
  exact if_neg (fun q => hr (by rw [q.1]; exact h))⟩⟩
end Frames
theorem up_to {R : Nat → Prop} (n : Nat) (hn : R n) (st : ∀ i, i < n → R (i + 1) → R i) : R 0 := by
  have : ∀ j i, i ≤ n → n - i = j → R i := by
    intro j
    induction j with
    | zero => intro i h1 h2; obtain rfl : i = n := by omega
              exact hn
    | succ j ih => intro i h1 h2; exact st i (by omega) (ih (i + 1) (by omega) (by omega))
  exact this n 0 (by omega) rfl
/-! LAWS: what their code comes to -/
def opJ (sg x y : Int) : Int := if sg = 43 then x + y else if sg = 45 then x - y else if sg = 42 then x * y else if sg = 47 then (if y = 0 then 0 else jdivL x y) else if sg = 61 then (if x = y then 1 else 0) else if sg = 60 then (if x < y then 1 else 0) else if sg = 62 then (if y < x then 1 else 0) else if sg = 38 then jandL x y else jorL x y
def stC (sg v : Int) (L : Nat → Int) (st : List Int) : List Int := if sg = 110 then v :: st else if sg = 108 then L v.toNat :: st else if sg = 33 then (match st with | x :: r => (if x = 0 then 1 else 0) :: r | [] => []) else (match st with | y :: x :: r => fW (opJ sg x y) (-1000000) 1000000 :: r | _ => [])
def evC (sg vl L : Nat → Int) : Nat → Nat → List Int → List Int
  | 0, _, st => st
  | n + 1, i, st => evC sg vl L n (i + 1) (stC (sg i) (vl i) L st)
/-- the sorts of what lies on the pile: whether a truth -/
def tyC (sg v : Int) (ty : List Bool) : Option (List Bool) :=
  if sg = 110 then (if 0 ≤ v ∧ v ≤ 9999 ∧ ty.length < 60 then some (false :: ty) else none)
  else if sg = 108 then (if 0 ≤ v ∧ v < 6 ∧ ty.length < 60 then some (false :: ty) else none)
  else if sg = 33 then (match ty with | true :: r => some (true :: r) | _ => none)
  else if sg = 43 ∨ sg = 45 ∨ sg = 42 ∨ sg = 47 then (match ty with | false :: false :: r => some (false :: r) | _ => none)
  else if sg = 61 ∨ sg = 60 ∨ sg = 62 then (match ty with | false :: false :: r => some (true :: r) | _ => none)
  else if sg = 38 ∨ sg = 124 then (match ty with | true :: true :: r => some (true :: r) | _ => none)
  else none
def scC (sg vl : Nat → Int) : Nat → Nat → List Bool → Option (List Bool)
  | 0, _, ty => some ty
  | n + 1, i, ty => match tyC (sg i) (vl i) ty with
    | some t => scC sg vl n (i + 1) t
    | none => none
def okV (x : Int) (t : Bool) : Prop := -1000000 ≤ x ∧ x ≤ 1000000 ∧ (t = true → x = 0 ∨ x = 1)
def okS : List Int → List Bool → Prop
  | [], [] => True
  | x :: r, t :: q => okV x t ∧ okS r q
  | _, _ => False
theorem okS_len : ∀ {st : List Int} {ty : List Bool}, okS st ty → st.length = ty.length
  | [], [], _ => rfl
  | _ :: _, _ :: _, h => by simp only [List.length_cons]; rw [okS_len h.2]
  | [], _ :: _, h => h.elim
  | _ :: _, [], h => h.elim
theorem fW_in {x lo hi : Int} (h : lo ≤ hi) : lo ≤ fW x lo hi ∧ fW x lo hi ≤ hi := by unfold fW; split <;> (try split) <;> omega
theorem stC_ok {sg v : Int} {L : Nat → Int} {st : List Int} {ty t' : List Bool} (hL : ∀ i, i < 6 → -1000000 ≤ L i ∧ L i ≤ 1000000) (h : okS st ty) (ht : tyC sg v ty = some t') : okS (stC sg v L st) t' := by
  unfold tyC at ht
  unfold stC
  by_cases c1 : sg = 110
  · rw [if_pos c1] at ht ⊢
    split at ht
    · cases ht; exact ⟨⟨by omega, by omega, by simp⟩, h⟩
    · cases ht
  · rw [if_neg c1] at ht ⊢
    by_cases c2 : sg = 108
    · rw [if_pos c2] at ht ⊢
      split at ht
      · cases ht
        have := hL v.toNat (by omega)
        exact ⟨⟨by omega, by omega, by simp⟩, h⟩
      · cases ht
    · rw [if_neg c2] at ht ⊢
      by_cases c3 : sg = 33
      · rw [if_pos c3] at ht ⊢
        split at ht
        · cases ht
          cases st with
          | nil => exact h.elim
          | cons x r => exact ⟨⟨by split <;> omega, by split <;> omega, fun _ => by split <;> simp⟩, h.2⟩
        · cases ht
      · rw [if_neg c3] at ht ⊢
        by_cases c4 : sg = 43 ∨ sg = 45 ∨ sg = 42 ∨ sg = 47
        · rw [if_pos c4] at ht
          split at ht
          · cases ht
            match st, h with
            | y :: x :: r, h =>
              have := fW_in (x := opJ sg x y) (lo := -1000000) (hi := 1000000) (by decide)
              exact ⟨⟨this.1, this.2, by simp⟩, h.2.2⟩
          · cases ht
        · rw [if_neg c4] at ht
          by_cases c5 : sg = 61 ∨ sg = 60 ∨ sg = 62
          · rw [if_pos c5] at ht
            split at ht
            · cases ht
              match st, h with
              | y :: x :: r, h =>
                have h01 : opJ sg x y = 0 ∨ opJ sg x y = 1 := by
                  unfold opJ
                  rcases c5 with c | c | c <;> subst c <;> simp <;> omega
                have h2 : fW (opJ sg x y) (-1000000) 1000000 = opJ sg x y := by unfold fW; rcases h01 with q | q <;> rw [q] <;> decide
                show okV (fW (opJ sg x y) (-1000000) 1000000) true ∧ okS r _
                rw [h2]
                exact ⟨⟨by omega, by omega, fun _ => h01⟩, h.2.2⟩
            · cases ht
          · rw [if_neg c5] at ht
            by_cases c6 : sg = 38 ∨ sg = 124
            · rw [if_pos c6] at ht
              split at ht
              · cases ht
                match st, h with
                | y :: x :: r, h =>
                  have hy := h.1.2.2 rfl
                  have hx := h.2.1.2.2 rfl
                  have h01 : opJ sg x y = 0 ∨ opJ sg x y = 1 := by
                    unfold opJ
                    rcases c6 with c | c <;> subst c <;> rcases hx with q | q <;> rcases hy with q2 | q2 <;> rw [q, q2] <;> decide
                  have h2 : fW (opJ sg x y) (-1000000) 1000000 = opJ sg x y := by unfold fW; rcases h01 with q | q <;> rw [q] <;> decide
                  show okV (fW (opJ sg x y) (-1000000) 1000000) true ∧ okS r _
                  rw [h2]
                  exact ⟨⟨by omega, by omega, fun _ => h01⟩, h.2.2⟩
              · cases ht
            · rw [if_neg c6] at ht; cases ht
theorem evC_ok {sg vl L : Nat → Int} (hL : ∀ i, i < 6 → -1000000 ≤ L i ∧ L i ≤ 1000000) : ∀ (n i : Nat) {st : List Int} {ty t' : List Bool}, okS st ty → scC sg vl n i ty = some t' → okS (evC sg vl L n i st) t'
  | 0, _, _, _, _, h, ht => by cases ht; exact h
  | n + 1, i, st, ty, t', h, ht => by
    simp only [scC] at ht
    split at ht
    · rename_i t ht2
      exact evC_ok hL n (i + 1) (stC_ok hL h ht2) ht
    · cases ht
/-- a pile in a row -/
def plR (p : Nat → Int) : List Int → Prop
  | [] => True
  | x :: r => p r.length = x ∧ plR p r
theorem plR_mono {p p' : Nat → Int} : ∀ {st : List Int}, (∀ k, k < st.length → p' k = p k) → plR p st → plR p' st
  | [], _, _ => trivial
  | x :: r, h, k => ⟨by rw [h r.length (by simp)]; exact k.1, plR_mono (fun j hj => h j (by simp only [List.length_cons]; omega)) k.2⟩
def hdL (st : List Int) : Int := match st with
  | x :: _ => x
  | [] => 0
