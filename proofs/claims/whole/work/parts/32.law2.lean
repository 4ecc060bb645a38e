/-! LAWS: the class's pile works out what evC says -/
section LawM2
variable {d : Nat} {M : jM} {Q : Option jV → jM → Prop} {g : Nat}
set_option maxHeartbeats 200000 in
theorem s_reckon {lt n i0 : Nat} {t' : List Bool} (hd : 3 ≤ d) (hS : Shp M) (hg : LawAt M g) (hlt : jro M 20 6 lt) (hd1 : lt ≠ g + 6) (hL : ∀ i, i < 6 → -1000000 ≤ iv M lt i ∧ iv M lt i ≤ 1000000) (hin : i0 + n ≤ 240) (hsc : scC (iv M (g + 1)) (iv M (g + 2)) n i0 [] = some t') (ht : t' ≠ [])
    (h : ∀ M', Fr (fun r => r = g + 6) M M' → Q (some (vI (hdL (evC (iv M (g + 1)) (iv M (g + 2)) (iv M lt) n i0 [])))) M') : Call d mX3_reckon [vR g, vI (i0 : Int), vI ((i0 + n : Nat) : Int), vR lt] M Q := by
  obtain ⟨e, rfl⟩ := dd (d := d) (by omega)
  refine vl_reckon hg (by omega) hlt hS ?_
  have key : ∀ (j i : Nat) (M1 : jM) (st : List Int) (ty : List Bool) (l6 l7 l8 : Option jV), i + j = i0 + n → Fr (fun r => r = g + 6) M M1 → okS st ty → ty.length ≤ 60 → plR (iv M1 (g + 6)) st → scC (iv M (g + 1)) (iv M (g + 2)) j i ty = some t' → evC (iv M (g + 1)) (iv M (g + 2)) (iv M lt) j i st = evC (iv M (g + 1)) (iv M (g + 2)) (iv M lt) n i0 [] → Run (e + 1) mX3_reckon 6 [some (vR g), some (vI (i0 : Int)), some (vI ((i0 + n : Nat) : Int)), some (vR lt), some (vI ((st.length : Int) - 1)), some (vI (i : Int)), l6, l7, l8] [] M1 Q := by
    intro j
    induction j with
    | zero =>
      intro i M1 st ty l6 l7 l8 hij hf hok hty hpl hsc1 hev
      refine vl_reckon_6 (hf.law hg) (by omega) (hf.row hlt) (hf.shp hS) ⟨fun _ => ?_, fun c => absurd c (by omega)⟩
      have h' := h M1 hf
      rw [← hev] at h'
      have hlen := okS_len hok
      have htt : ty = t' := Option.some.inj hsc1
      cases st with
      | nil =>
        refine absurd ?_ ht
        rw [← htt]
        exact List.length_eq_zero_iff.mp hlen.symm
      | cons x r =>
        simp only [List.length_cons] at hlen hty ⊢
        rw [atv_k (by omega) (by omega), show ((r.length + 1 : Nat) : Int) - 1 = (r.length : Int) by omega, Int.toNat_natCast, hpl.1]
        exact h'
    | succ j ih =>
      intro i M1 st ty l6 l7 l8 hij hf hok hty hpl hsc1 hev
      have hlen := okS_len hok
      have e1 : iv M1 (g + 1) = iv M (g + 1) := hf.eiv (by omega)
      have e2 : iv M1 (g + 2) = iv M (g + 2) := hf.eiv (by omega)
      have e3 : iv M1 lt = iv M lt := hf.eiv hd1
      have hi : i < 240 := by omega
      simp only [scC] at hsc1
      simp only [evC] at hev
      cases hty2 : tyC (iv M (g + 1) i) (iv M (g + 2) i) ty with
      | none => rw [hty2] at hsc1; cases hsc1
      | some t2 =>
      rw [hty2] at hsc1
      have hsc2 : scC (iv M (g + 1)) (iv M (g + 2)) j (i + 1) t2 = some t' := hsc1
      have hok2 := stC_ok (L := iv M lt) hL hok hty2
      have a1 : atv M1 240 (g + 1) (i : Int) = iv M (g + 1) i := by rw [atv_n hi, e1]
      have a2 : atv M1 240 (g + 2) (i : Int) = iv M (g + 2) i := by rw [atv_n hi, e2]
      refine vl_reckon_6 (hf.law hg) (by omega) (hf.row hlt) (hf.shp hS) ⟨fun c => absurd c (by omega), fun _ => ⟨fun c => ⟨fun c2 => ⟨fun c3 => ?_, fun c3 => ?_⟩, fun c2 => ?_⟩, fun c => ?_⟩⟩
      · -- joins
        rw [a1] at c c2 c3 ⊢
        obtain ⟨ta, tb, tr, tc, hta, htc⟩ := tyC_bin c c2 c3 hty2
        subst hta htc
        cases st with
        | nil => exact hok.elim
        | cons y s1 =>
        cases s1 with
        | nil => exact hok.2.elim
        | cons x r =>
        have hst : stC (iv M (g + 1) i) (iv M (g + 2) i) (iv M lt) (y :: x :: r) = fW (opJ (iv M (g + 1) i) x y) (-1000000) 1000000 :: r := by
          unfold stC; rw [if_neg c, if_neg c2, if_neg c3]
        rw [hst] at hok2 hev
        simp only [List.length_cons] at hlen hty ⊢
        obtain ⟨p1, p2, p3⟩ := hpl
        simp only [List.length_cons] at p1
        rw [show w32 (((r.length + 1 + 1 : Nat) : Int) - 1 + -1) = (r.length : Int) by rw [w32_i (by omega) (by omega)]; omega]
        rw [w32s (show r.length < 1000000 by omega)]
        rw [atv_n (show r.length < 64 by omega), atv_n (show r.length + 1 < 64 by omega), p1, p2, w32s (show i < 1000000 by omega)]
        refine s_joined (by omega) (hf.shp hS) ⟨hok.2.1.1, hok.2.1.2.1⟩ ⟨hok.1.1, hok.1.2.1⟩ ⟨_, rfl, hf.shp hS, hf.law hg, ?_⟩
        have hlen2 : r.length = tr.length := by omega
        rw [show ((r.length : Nat) : Int) = ((fW (opJ (iv M (g + 1) i) x y) (-1000000) 1000000 :: r).length : Int) - 1 by simp only [List.length_cons]; omega]
        refine ih (i + 1) _ _ _ _ _ _ (by omega) (hf.trans (fr_ptv rfl)) hok2 (by simp only [List.length_cons]; omega) ?_ hsc2 hev
        rw [show ((fW (opJ (iv M (g + 1) i) x y) (-1000000) 1000000 :: r).length : Int) - 1 = (r.length : Int) by simp only [List.length_cons]; omega, ptv_n (by omega)]
        refine ⟨by rw [iv_wi]; simp, plR_mono (fun k hk => ?_) p3⟩
        rw [iv_wi]; exact if_neg (by omega)
      · -- not
        rw [a1] at c c2 c3 ⊢
        have c3' : iv M (g + 1) i = 33 := by simpa using c3
        have : ∃ r, ty = true :: r ∧ t2 = true :: r := by
          unfold tyC at hty2
          rw [if_neg c, if_neg c2, if_pos c3'] at hty2
          split at hty2
          · cases hty2; exact ⟨_, rfl, rfl⟩
          · cases hty2
        obtain ⟨tr, hta, htc⟩ := this
        subst hta htc
        cases st with
        | nil => exact hok.elim
        | cons x r =>
        have hst : stC (iv M (g + 1) i) (iv M (g + 2) i) (iv M lt) (x :: r) = (if x = 0 then 1 else 0) :: r := by
          unfold stC; rw [if_neg c, if_neg c2, if_pos c3']
        rw [hst] at hok2 hev
        simp only [List.length_cons] at hlen hty ⊢
        obtain ⟨p1, p3⟩ := hpl
        simp only [show ((r.length + 1 : Nat) : Int) - 1 = (r.length : Int) by omega]
        simp only [atv_n (show r.length < 64 by omega), p1, w32s (show i < 1000000 by omega)]
        have hx : (if x ≠ 0 then (0 : Int) else 1) = if x = 0 then 1 else 0 := by by_cases q : x = 0 <;> simp [q]
        rw [hx]
        rw [show ((r.length : Nat) : Int) = (((if x = 0 then (1 : Int) else 0) :: r).length : Int) - 1 by simp only [List.length_cons]; omega]
        refine ih (i + 1) _ _ _ _ _ _ (by omega) (hf.trans (fr_ptv rfl)) hok2 (by simp only [List.length_cons]; omega) ?_ hsc2 hev
        rw [show (((if x = 0 then (1 : Int) else 0) :: r).length : Int) - 1 = (r.length : Int) by simp only [List.length_cons]; omega, ptv_n (by omega)]
        refine ⟨by rw [iv_wi]; simp, plR_mono (fun k hk => ?_) p3⟩
        rw [iv_wi]; exact if_neg (by omega)
      · -- letter
        rw [a1] at c c2
        have c2' : iv M (g + 1) i = 108 := by simpa using c2
        have : 0 ≤ iv M (g + 2) i ∧ iv M (g + 2) i < 6 ∧ ty.length < 60 ∧ t2 = false :: ty := by
          unfold tyC at hty2
          rw [if_neg c, if_pos c2'] at hty2
          split at hty2
          · rename_i q; cases hty2; exact ⟨q.1, q.2.1, q.2.2, rfl⟩
          · cases hty2
        obtain ⟨q1, q2, q3, htc⟩ := this
        subst htc
        have hst : stC (iv M (g + 1) i) (iv M (g + 2) i) (iv M lt) st = iv M lt (iv M (g + 2) i).toNat :: st := by
          unfold stC; rw [if_neg c, if_pos c2']
        rw [hst] at hok2 hev
        rw [a1, a2, atv_k q1 (by omega), e3, w32s (by omega)]
        rw [show w32 ((st.length : Int) - 1 + 1) = (st.length : Int) by rw [w32_i (by omega) (by omega)]; omega]
        rw [show ((st.length : Nat) : Int) = ((iv M lt (iv M (g + 2) i).toNat :: st).length : Int) - 1 by simp only [List.length_cons]; omega]
        refine ih (i + 1) _ _ _ _ _ _ (by omega) (hf.trans (fr_ptv rfl)) hok2 (by simp only [List.length_cons]; omega) ?_ hsc2 hev
        rw [show ((iv M lt (iv M (g + 2) i).toNat :: st).length : Int) - 1 = (st.length : Int) by simp only [List.length_cons]; omega, ptv_n (by omega)]
        refine ⟨by rw [iv_wi]; simp, plR_mono (fun k hk => ?_) hpl⟩
        rw [iv_wi]; exact if_neg (by omega)
      · -- number
        rw [a1] at c
        have c1 : iv M (g + 1) i = 110 := by simpa using c
        have : 0 ≤ iv M (g + 2) i ∧ iv M (g + 2) i ≤ 9999 ∧ ty.length < 60 ∧ t2 = false :: ty := by
          unfold tyC at hty2
          rw [if_pos c1] at hty2
          split at hty2
          · rename_i q; cases hty2; exact ⟨q.1, q.2.1, q.2.2, rfl⟩
          · cases hty2
        obtain ⟨q1, q2, q3, htc⟩ := this
        subst htc
        have hst : stC (iv M (g + 1) i) (iv M (g + 2) i) (iv M lt) st = iv M (g + 2) i :: st := by
          unfold stC; rw [if_pos c1]
        rw [hst] at hok2 hev
        rw [a1, a2, w32s (by omega)]
        rw [show w32 ((st.length : Int) - 1 + 1) = (st.length : Int) by rw [w32_i (by omega) (by omega)]; omega]
        rw [show ((st.length : Nat) : Int) = ((iv M (g + 2) i :: st).length : Int) - 1 by simp only [List.length_cons]; omega]
        refine ih (i + 1) _ _ _ _ _ _ (by omega) (hf.trans (fr_ptv rfl)) hok2 (by simp only [List.length_cons]; omega) ?_ hsc2 hev
        rw [show ((iv M (g + 2) i :: st).length : Int) - 1 = (st.length : Int) by simp only [List.length_cons]; omega, ptv_n (by omega)]
        refine ⟨by rw [iv_wi]; simp, plR_mono (fun k hk => ?_) hpl⟩
        rw [iv_wi]; exact if_neg (by omega)
  exact key n i0 M [] [] _ _ _ rfl Fr.refl trivial (by decide) trivial hsc rfl
def wC (sg vl cf sf se L : Nat → Int) : Nat → Nat → Int
  | 0, _ => 0
  | n + 1, k => if cf k = sf k ∨ hdL (evC sg vl L (sf k - cf k).toNat (cf k).toNat []) ≠ 0 then hdL (evC sg vl L (se k - sf k).toNat (sf k).toNat []) else wC sg vl cf sf se L n (k + 1)
def LawW (M : jM) (g : Nat) : Prop := 0 ≤ iv M g 6 ∧ iv M g 6 ≤ 64 ∧ ∀ k : Nat, (k : Int) < iv M g 6 → ∃ f s e : Nat, iv M (g + 3) k = f ∧ iv M (g + 4) k = s ∧ iv M (g + 5) k = e ∧ f ≤ s ∧ s ≤ e ∧ e ≤ 240 ∧ (f = s ∨ scC (iv M (g + 1)) (iv M (g + 2)) (s - f) f [] = some [true]) ∧ scC (iv M (g + 1)) (iv M (g + 2)) (e - s) s [] = some [false]
def lawF (M : jM) (g : Nat) (L : Nat → Int) : Int := wC (iv M (g + 1)) (iv M (g + 2)) (iv M (g + 3)) (iv M (g + 4)) (iv M (g + 5)) L (iv M g 6).toNat 0
theorem lawF_fr {P : Nat → Prop} {M' : jM} (h : Fr P M M') (hp : ∀ k, k < 6 → ¬ P (g + k)) : lawF M' g = lawF M g ∧ (LawW M g → LawW M' g) := by
  unfold lawF LawW
  rw [h.eiv (hp 1 (by decide)), h.eiv (hp 2 (by decide)), h.eiv (hp 3 (by decide)), h.eiv (hp 4 (by decide)), h.eiv (hp 5 (by decide)), h.eiv (r := g) (hp 0 (by decide))]
  exact ⟨rfl, id⟩
theorem hdL_in {st : List Int} {ty : List Bool} (h : okS st ty) (hn : ty ≠ []) : -1000000 ≤ hdL st ∧ hdL st ≤ 1000000 := by
  cases st with
  | nil => cases ty with
    | nil => exact absurd rfl hn
    | cons a b => exact h.elim
  | cons x r => cases ty with
    | nil => exact h.elim
    | cons a b => exact ⟨h.1.1, h.1.2.1⟩
theorem s_worth {lt : Nat} (hd : 4 ≤ d) (hS : Shp M) (hg : LawAt M g) (hw : LawW M g) (hlt : jro M 20 6 lt) (hd1 : lt ≠ g + 6) (hL : ∀ i, i < 6 → -1000000 ≤ iv M lt i ∧ iv M lt i ≤ 1000000)
    (h : ∀ M', Fr (fun r => r = g + 6) M M' → Q (some (vI (lawF M g (iv M lt)))) M') : Call d mX3_worth [vR g, vR lt] M Q := by
  obtain ⟨e, rfl⟩ := dd (d := d) (by omega)
  refine vl_worth hg (by omega) hlt hS ?_
  have key : ∀ (j i : Nat) (M1 : jM) (l3 l4 : Option jV), ((i + j : Nat) : Int) = iv M g 6 → Fr (fun r => r = g + 6) M M1 → lawF M g (iv M lt) = wC (iv M (g + 1)) (iv M (g + 2)) (iv M (g + 3)) (iv M (g + 4)) (iv M (g + 5)) (iv M lt) j i → Run (e + 1) mX3_worth 2 [some (vR g), some (vR lt), some (vI (i : Int)), l3, l4] [] M1 Q := by
    intro j
    induction j with
    | zero =>
      intro i M1 l3 l4 hij hf hv
      have e0 : iv M1 g = iv M g := hf.eiv (by omega)
      refine vl_worth_2 (hf.law hg) (by omega) (hf.row hlt) (hf.shp hS) ⟨fun _ => ?_, fun c => absurd c (by rw [e0]; omega)⟩
      have h' := h M1 hf
      rw [hv] at h'
      exact h'
    | succ j ih =>
      intro i M1 l3 l4 hij hf hv
      have e0 : iv M1 g = iv M g := hf.eiv (by omega)
      have e1 : iv M1 (g + 1) = iv M (g + 1) := hf.eiv (by omega)
      have e2 : iv M1 (g + 2) = iv M (g + 2) := hf.eiv (by omega)
      have e3 : iv M1 (g + 3) = iv M (g + 3) := hf.eiv (by omega)
      have e4 : iv M1 (g + 4) = iv M (g + 4) := hf.eiv (by omega)
      have e5 : iv M1 (g + 5) = iv M (g + 5) := hf.eiv (by omega)
      have elt : iv M1 lt = iv M lt := hf.eiv hd1
      obtain ⟨f, s, en, q3, q4, q5, q6, q7, q8, q9, q10⟩ := hw.2.2 i (by omega)
      have hi : i < 64 := by have := hw.2.1; omega
      have a3 : atv M1 64 (g + 3) (i : Int) = (f : Int) := by rw [atv_n hi, e3, q3]
      have a4 : atv M1 64 (g + 4) (i : Int) = (s : Int) := by rw [atv_n hi, e4, q4]
      have a5 : atv M1 64 (g + 5) (i : Int) = (en : Int) := by rw [atv_n hi, e5, q5]
      have hL1 : ∀ i, i < 6 → -1000000 ≤ iv M1 lt i ∧ iv M1 lt i ≤ 1000000 := by rw [elt]; exact hL
      simp only [wC, q3, q4, q5, show ((s : Int) - f).toNat = s - f by omega, show ((en : Int) - s).toNat = en - s by omega, Int.toNat_natCast] at hv
      refine vl_worth_2 (hf.law hg) (by omega) (hf.row hlt) (hf.shp hS) ⟨fun c => absurd c (by rw [e0]; omega), fun _ => ⟨fun c => ?_, fun c => ?_⟩⟩
      · rw [a3, a4] at c
        rw [a4, a5]
        rw [if_pos (Or.inl c)] at hv
        have := s_reckon (d := e) (M := M1) (Q := fun r M' => ∃ z : Int, r = some (vI z) ∧ Shp M' ∧ LawAt M' g ∧ Q (some (vI z)) M') (g := g) (lt := lt) (i0 := s) (n := en - s) (t' := [false]) (by omega) (hf.shp hS) (hf.law hg) (hf.row hlt) hd1 hL1 (by omega) (by rw [e1, e2]; exact q10) (by simp) (fun M2 hf2 => ⟨_, rfl, hf2.shp (hf.shp hS), hf2.law (hf.law hg), by
          have h' := h M2 (hf.trans hf2)
          rw [hv] at h'
          rw [e1, e2, elt]
          exact h'⟩)
        rw [show s + (en - s) = en by omega] at this
        exact this
      · rw [a3, a4] at c
        rw [a3, a4]
        have q9' : scC (iv M (g + 1)) (iv M (g + 2)) (s - f) f [] = some [true] := by
          rcases q9 with q | q
          · exact absurd (by rw [q]) c
          · exact q
        have := s_reckon (d := e) (M := M1) (Q := fun r M' => ∃ z : Int, r = some (vI z) ∧ Shp M' ∧ LawAt M' g ∧ (((z = (0 : Int)) → (Run (e + 1) mX3_worth 2 [some (vR g), some (vR lt), some (vI (w32 ((i : Int) + (1 : Int)))), some (vI (f : Int)), some (vI (s : Int))] [] M' Q)) ∧ (¬ (z = (0 : Int)) → (Call e mX3_reckon [vR g, vI (s : Int), vI (atv M' 64 (g + 5) (i : Int)), vR lt] M' (fun r19 M17 => ∃ z16 : Int, r19 = some (vI z16) ∧ Shp M17 ∧ LawAt M17 g ∧ (Q (some (vI z16)) M17)))))) (g := g) (lt := lt) (i0 := f) (n := s - f) (t' := [true]) (by omega) (hf.shp hS) (hf.law hg) (hf.row hlt) hd1 hL1 (by omega) (by rw [e1, e2]; exact q9') (by simp) (fun M2 hf2 => ⟨_, rfl, hf2.shp (hf.shp hS), hf2.law (hf.law hg), by
          have f5 : iv M2 (g + 5) = iv M (g + 5) := (hf2.eiv (by omega)).trans e5
          have f1 : iv M2 (g + 1) = iv M (g + 1) := (hf2.eiv (by omega)).trans e1
          have f2 : iv M2 (g + 2) = iv M (g + 2) := (hf2.eiv (by omega)).trans e2
          have flt : iv M2 lt = iv M lt := (hf2.eiv hd1).trans elt
          rw [e1, e2, elt]
          refine ⟨fun z0 => ?_, fun z0 => ?_⟩
          · rw [if_neg (by rintro (q | q); exact c q; exact q z0)] at hv
            rw [w32s (by omega)]
            exact ih (i + 1) M2 _ _ (by omega) (hf.trans hf2) hv
          · rw [if_pos (Or.inr z0)] at hv
            rw [atv_n hi, f5, q5]
            have := s_reckon (d := e) (M := M2) (Q := fun r M' => ∃ z : Int, r = some (vI z) ∧ Shp M' ∧ LawAt M' g ∧ Q (some (vI z)) M') (g := g) (lt := lt) (i0 := s) (n := en - s) (t' := [false]) (by omega) (hf2.shp (hf.shp hS)) (hf2.law (hf.law hg)) (hf2.row (hf.row hlt)) hd1 (by rw [flt]; exact hL) (by omega) (by rw [f1, f2]; exact q10) (by simp) (fun M3 hf3 => ⟨_, rfl, hf3.shp (hf2.shp (hf.shp hS)), hf3.law (hf2.law (hf.law hg)), by
              have h' := h M3 ((hf.trans hf2).trans hf3)
              rw [hv] at h'
              rw [f1, f2, flt]
              exact h'⟩)
            rw [show s + (en - s) = en by omega] at this
            exact this⟩)
        rw [show f + (s - f) = s by omega] at this
        exact this
  exact key (iv M g 6).toNat 0 M _ _ (by have := hw.1; omega) Fr.refl rfl
theorem lawF_in (hw : LawW M g) {L : Nat → Int} (hL : ∀ i, i < 6 → -1000000 ≤ L i ∧ L i ≤ 1000000) : -1000000 ≤ lawF M g L ∧ lawF M g L ≤ 1000000 := by
  have key : ∀ (j i : Nat), ((i + j : Nat) : Int) = iv M g 6 → -1000000 ≤ wC (iv M (g + 1)) (iv M (g + 2)) (iv M (g + 3)) (iv M (g + 4)) (iv M (g + 5)) L j i ∧ wC (iv M (g + 1)) (iv M (g + 2)) (iv M (g + 3)) (iv M (g + 4)) (iv M (g + 5)) L j i ≤ 1000000 := by
    intro j
    induction j with
    | zero => intro i _; exact ⟨by simp [wC], by simp [wC]⟩
    | succ j ih =>
      intro i hij
      obtain ⟨f, s, en, q3, q4, q5, q6, q7, q8, q9, q10⟩ := hw.2.2 i (by omega)
      simp only [wC, q3, q4, q5, show ((s : Int) - f).toNat = s - f by omega, show ((en : Int) - s).toNat = en - s by omega, Int.toNat_natCast]
      split
      · exact hdL_in (evC_ok (st := []) (ty := []) hL (en - s) s trivial q10) (by simp)
      · exact ih (i + 1) (by omega)
  exact key (iv M g 6).toNat 0 (by have := hw.1; omega)
end LawM2
