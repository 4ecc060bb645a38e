/-! THE MODEL's laws: its stack works out what evC says -/
def trS (c : Int) : Int := if c = 0 then 110 else if c = 1 then 108 else if c = 2 then 43 else if c = 3 then 45 else if c = 4 then 42 else if c = 5 then 47 else if c = 6 then 61 else if c = 7 then 60 else if c = 8 then 62 else if c = 9 then 33 else if c = 10 then 38 else 124
def mSg (M : jM) (h : Nat) : Nat → Int := fun i => trS (iv M 470 (520 * h + i))
def mVl (M : jM) (h : Nat) : Nat → Int := fun i => iv M 471 (520 * h + i)
def mRow (M : jM) (r h : Nat) : Nat → Int := fun k => iv M r (140 * h + k)
section MLaw
variable {d : Nat} {M : jM} {Q : Option jV → jM → Prop}
theorem m_worked {c x y : Int} (hd : 7 ≤ d) (hS : Shp M) (hx : -1000000 ≤ x ∧ x ≤ 1000000) (hy : -1000000 ≤ y ∧ y ≤ 1000000) (hc : 2 ≤ c ∧ c ≤ 11 ∧ c ≠ 9) (h01 : 10 ≤ c → (x = 0 ∨ x = 1) ∧ (y = 0 ∨ y = 1)) (h : Q (some (vI (fW (opJ (trS c) x y) (-1000000) 1000000))) M) : Call d mX11_worked [vI c, vL x, vL y] M Q := by
  obtain ⟨e, rfl⟩ := dd (d := d) (by omega)
  have hm := mul_in hx hy
  have i01 : ∀ {p : Prop} [Decidable p], fW (if p then 1 else 0) (-1000000) 1000000 = if p then 1 else 0 := by
    intro p _
    by_cases q : p <;> simp [q, fW]
  refine vn_worked (by omega) hS ⟨?_, ?_, ?_, ?_, ?_, ?_, ?_, ?_, ?_, ?_⟩
  · intro e2; subst e2
    rw [w64_i (by omega) (by omega)]
    unfold fB
    simpa [trS, opJ] using h
  · intro e2; subst e2
    rw [w64_i (by omega) (by omega)]
    unfold fB
    simpa [trS, opJ] using h
  · intro e2; subst e2
    rw [w64_i (by omega) (by omega)]
    unfold fB
    simpa [trS, opJ] using h
  · intro e2; subst e2
    have h' : Q (some (vI (fW (if y = 0 then 0 else jdivL x y) (-1000000) 1000000))) M := by simpa [trS, opJ] using h
    refine ⟨fun q => ?_, fun q => ?_⟩
    · have hy0 : y ≠ 0 := fun z => q (jcmp_eq.mpr z)
      rw [if_neg hy0] at h'
      exact ⟨hy0, h'⟩
    · have hy0 : y = 0 := jcmp_eq.mp (by simpa using q)
      rw [if_pos hy0] at h'
      exact h'
  · intro e2; subst e2
    have h' : Q (some (vI (fW (if x = y then 1 else 0) (-1000000) 1000000))) M := by simpa [trS, opJ] using h
    rw [i01] at h'
    refine (congrArg (fun z => Q (some (vI z)) M) ?_).mp h'
    by_cases hxy : x = y <;> simp [hxy, jcmp_eq]
  · intro e2; subst e2
    have h' : Q (some (vI (fW (if x < y then 1 else 0) (-1000000) 1000000))) M := by simpa [trS, opJ] using h
    rw [i01] at h'
    refine (congrArg (fun z => Q (some (vI z)) M) ?_).mp h'
    simp only [jcmp_ge]; split <;> split <;> first | rfl | omega
  · intro e2; subst e2
    have h' : Q (some (vI (fW (if y < x then 1 else 0) (-1000000) 1000000))) M := by simpa [trS, opJ] using h
    rw [i01] at h'
    refine (congrArg (fun z => Q (some (vI z)) M) ?_).mp h'
    simp only [jcmp_le]; split <;> split <;> first | rfl | omega
  · intro e2; exact absurd e2 hc.2.2
  · intro e2; subst e2
    have h' : Q (some (vI (fW (jandL x y) (-1000000) 1000000))) M := by simpa [trS, opJ] using h
    refine (congrArg (fun z => Q (some (vI z)) M) ?_).mp h'
    obtain ⟨q1, q2⟩ := h01 (by decide)
    rcases q1 with rfl | rfl <;> rcases q2 with rfl | rfl <;> decide
  · intro e2
    have e3 : c = 11 := by omega
    subst e3
    have h' : Q (some (vI (fW (jorL x y) (-1000000) 1000000))) M := by simpa [trS, opJ] using h
    refine (congrArg (fun z => Q (some (vI z)) M) ?_).mp h'
    obtain ⟨q1, q2⟩ := h01 (by decide)
    rcases q1 with rfl | rfl <;> rcases q2 with rfl | rfl <;> decide
theorem trS_ne {c : Int} (hc : 0 ≤ c ∧ c ≤ 11) : (c ≠ 0 → trS c ≠ 110) ∧ (c ≠ 1 → trS c ≠ 108) ∧ (c ≠ 9 → trS c ≠ 33) := by
  have : c = 0 ∨ c = 1 ∨ c = 2 ∨ c = 3 ∨ c = 4 ∨ c = 5 ∨ c = 6 ∨ c = 7 ∨ c = 8 ∨ c = 9 ∨ c = 10 ∨ c = 11 := by omega
  rcases this with rfl | rfl | rfl | rfl | rfl | rfl | rfl | rfl | rfl | rfl | rfl | rfl <;> decide
theorem tyC_tt {sg v : Int} {ty t' : List Bool} (h1 : sg = 38 ∨ sg = 124) (h : tyC sg v ty = some t') : ∃ r, ty = true :: true :: r := by
  unfold tyC at h
  rw [if_neg (by omega), if_neg (by omega), if_neg (by omega), if_neg (by omega), if_neg (by omega), if_pos h1] at h
  split at h
  · exact ⟨_, rfl⟩
  · cases h
theorem m_workOut {h0 n i0 : Nat} {t' : List Bool} (hd : 9 ≤ d) (hS : Shp M) (hh : h0 < 5) (hL : ∀ i, i < 6 → -1000000 ≤ iv M 477 i ∧ iv M 477 i ≤ 1000000) (hin : i0 + n ≤ 520) (hco : ∀ i, i < i0 + n → 0 ≤ iv M 470 (520 * h0 + i) ∧ iv M 470 (520 * h0 + i) ≤ 11) (hsc : scC (mSg M h0) (mVl M h0) n i0 [] = some t') (ht : t'.length = 1)
    (h : ∀ M', Fr (fun r => r = 478) M M' → Q (some (vI (hdL (evC (mSg M h0) (mVl M h0) (iv M 477) n i0 [])))) M') : Call d mX11_workOut [vR 468, vI (h0 : Int), vI (i0 : Int), vI ((i0 + n : Nat) : Int)] M Q := by
  obtain ⟨e, rfl⟩ := dd (d := d) (by omega)
  refine vn_workOut (by omega) hS ?_
  rw [w32_i (z := 520 * (h0 : Int)) (by omega) (by omega), w32_i (z := 520 * (h0 : Int) + i0) (by omega) (by omega)]
  have key : ∀ (j i : Nat) (M1 : jM) (st : List Int) (ty : List Bool), i + j = i0 + n → Fr (fun r => r = 478) M M1 → okS st ty → ty.length ≤ 60 → plR (iv M1 478) st → scC (mSg M h0) (mVl M h0) j i ty = some t' → evC (mSg M h0) (mVl M h0) (iv M 477) j i st = evC (mSg M h0) (mVl M h0) (iv M 477) n i0 [] → Run (e + 1) mX11_workOut 12 [some (vR 468), some (vI (h0 : Int)), some (vI (i0 : Int)), some (vI ((i0 + n : Nat) : Int)), some (vI (st.length : Int)), some (vI (520 * (h0 : Int) + i))] [] M1 Q := by
    intro j
    induction j with
    | zero =>
      intro i M1 st ty hij hf hok hty hpl hsc1 hev
      refine vn_workOut_12 (by omega) (hf.shp hS) ⟨fun _ => ?_, fun c => absurd c (by rw [w32_i (z := 520 * (h0 : Int)) (by omega) (by omega), w32_i (by omega) (by omega)]; omega)⟩
      have h' := h M1 hf
      rw [← hev] at h'
      have hlen := okS_len hok
      have htt : ty = t' := Option.some.inj hsc1
      rw [htt, ht] at hlen
      cases st with
      | nil => exact absurd hlen (by simp)
      | cons x r =>
        simp only [List.length_cons] at hlen
        have h0 := hpl.1
        rw [show r.length = 0 by omega] at h0
        rw [h0]
        exact h'
    | succ j ih =>
      intro i M1 st ty hij hf hok hty hpl hsc1 hev
      have hlen := okS_len hok
      have e1 : iv M1 470 = iv M 470 := hf.eiv (by omega)
      have e2 : iv M1 471 = iv M 471 := hf.eiv (by omega)
      have e3 : iv M1 477 = iv M 477 := hf.eiv (by omega)
      have hi : i < i0 + n := by omega
      simp only [scC] at hsc1
      simp only [evC] at hev
      have hc := hco i hi
      obtain ⟨n1, n2, n3⟩ := trS_ne hc
      have hsg : mSg M h0 i = trS (iv M 470 (520 * h0 + i)) := rfl
      have hvl : mVl M h0 i = iv M 471 (520 * h0 + i) := rfl
      rw [hsg, hvl] at hsc1 hev
      generalize hcg : iv M 470 (520 * h0 + i) = c at hc n1 n2 n3 hsc1 hev
      generalize hvg : iv M 471 (520 * h0 + i) = v at hsc1 hev
      cases hty2 : tyC (trS c) v ty with
      | none => rw [hty2] at hsc1; cases hsc1
      | some t2 =>
      rw [hty2] at hsc1
      have hsc2 : scC (mSg M h0) (mVl M h0) j (i + 1) t2 = some t' := hsc1
      have hok2 := stC_ok (L := iv M 477) hL hok hty2
      have a1 : iv M1 470 (520 * (h0 : Int) + i).toNat = c := by rw [e1, ← hcg]; exact congrArg _ (by omega)
      have a2 : iv M1 471 (520 * (h0 : Int) + i).toNat = v := by rw [e2, ← hvg]; exact congrArg _ (by omega)
      refine vn_workOut_12 (by omega) (hf.shp hS) ⟨fun c => absurd c (by rw [w32_i (z := 520 * (h0 : Int)) (by omega) (by omega), w32_i (by omega) (by omega)]; omega), fun _ => ⟨⟨by omega, by omega⟩, fun c0 => ⟨fun c1 => absurd c0 c1, fun _ => ?_⟩, fun c0 => ⟨fun c1 => ⟨fun c9 => ?_, fun c9 => ?_⟩, fun c1 => ⟨fun _ => ?_, fun c1 => absurd c0 (by simpa using c1)⟩⟩⟩⟩
      · -- number
        rw [a1] at c0
        subst c0
        have : 0 ≤ v ∧ v ≤ 9999 ∧ ty.length < 60 ∧ t2 = false :: ty := by
          unfold tyC at hty2
          rw [if_pos (show trS 0 = 110 from rfl)] at hty2
          split at hty2
          · rename_i q; cases hty2; exact ⟨q.1, q.2.1, q.2.2, rfl⟩
          · cases hty2
        obtain ⟨q1, q2, q3, htc⟩ := this
        subst htc
        have hst : stC (trS 0) v (iv M 477) st = v :: st := by
          unfold stC; rw [if_pos (show trS 0 = 110 from rfl)]
        rw [hst] at hok2 hev
        refine ⟨⟨by omega, by omega⟩, fun N hN hSN => ?_⟩
        rw [a2, Int.toNat_natCast] at hN
        rw [w32_i (z := (st.length : Int) + 1) (by omega) (by omega), w32_i (z := 520 * (h0 : Int) + i + 1) (by omega) (by omega), show (st.length : Int) + 1 = ((v :: st).length : Int) by simp only [List.length_cons]; omega, show 520 * (h0 : Int) + i + 1 = 520 * (h0 : Int) + ((i + 1 : Nat) : Int) by omega]
        subst hN
        refine ih (i + 1) _ _ _ (by omega) (hf.ps rfl) hok2 (by simp only [List.length_cons]; omega) ⟨by rw [iv_si]; simp, plR_mono (fun k hk => ?_) hpl⟩ hsc2 hev
        rw [iv_si]; exact if_neg (by omega)
      · -- joins
        rw [a1] at c0 c1 c9 ⊢
        obtain ⟨ta, tb, tr, tc, hta, htc⟩ := tyC_bin (n1 c0) (n2 c1) (n3 c9) hty2
        have h01 : 10 ≤ c → ta = true ∧ tb = true := by
          intro h10
          have h38 : trS c = 38 ∨ trS c = 124 := by
            have : c = 10 ∨ c = 11 := by omega
            rcases this with rfl | rfl <;> decide
          obtain ⟨r, hr⟩ := tyC_tt h38 hty2
          rw [hta] at hr
          cases hr
          exact ⟨rfl, rfl⟩
        subst hta htc
        cases st with
        | nil => exact hok.elim
        | cons y s1 =>
        cases s1 with
        | nil => exact hok.2.elim
        | cons x r =>
        have hst : stC (trS c) v (iv M 477) (y :: x :: r) = fW (opJ (trS c) x y) (-1000000) 1000000 :: r := by
          unfold stC; rw [if_neg (n1 c0), if_neg (n2 c1), if_neg (n3 c9)]
        rw [hst] at hok2 hev
        simp only [List.length_cons] at hlen hty ⊢
        obtain ⟨p1, p2, p3⟩ := hpl
        simp only [List.length_cons] at p1
        rw [show w32 (((r.length + 1 + 1 : Nat) : Int) + -1) = ((r.length + 1 : Nat) : Int) by rw [w32_i (by omega) (by omega)]; omega]
        rw [show w32 (((r.length + 1 : Nat) : Int) - 1) = (r.length : Int) by rw [w32_i (by omega) (by omega)]; omega]
        refine ⟨⟨by omega, by omega⟩, ⟨by omega, by omega⟩, ?_⟩
        rw [Int.toNat_natCast, Int.toNat_natCast, p1, p2]
        refine m_worked (by omega) (hf.shp hS) ⟨hok.2.1.1, hok.2.1.2.1⟩ ⟨hok.1.1, hok.1.2.1⟩ ⟨by omega, by omega, c9⟩ (fun h10 => ⟨hok.2.1.2.2 (h01 h10).2, hok.1.2.2 (h01 h10).1⟩) ⟨_, rfl, hf.shp hS, fun N hN hSN => ?_⟩
        rw [w32_i (z := 520 * (h0 : Int) + i + 1) (by omega) (by omega), show ((r.length + 1 : Nat) : Int) = ((fW (opJ (trS c) x y) (-1000000) 1000000 :: r).length : Int) by simp only [List.length_cons], show 520 * (h0 : Int) + i + 1 = 520 * (h0 : Int) + ((i + 1 : Nat) : Int) by omega]
        subst hN
        refine ih (i + 1) _ _ _ (by omega) (hf.ps rfl) hok2 (by simp only [List.length_cons]; omega) ⟨by rw [iv_si]; simp, plR_mono (fun k hk => ?_) p3⟩ hsc2 hev
        rw [iv_si]; exact if_neg (by omega)
      · -- not
        rw [a1] at c0 c1 c9
        have c9' : c = 9 := by simpa using c9
        subst c9'
        have : ∃ r, ty = true :: r ∧ t2 = true :: r := by
          unfold tyC at hty2
          rw [if_neg (show ¬ trS 9 = 110 by decide), if_neg (show ¬ trS 9 = 108 by decide), if_pos (show trS 9 = 33 from rfl)] at hty2
          split at hty2
          · cases hty2; exact ⟨_, rfl, rfl⟩
          · cases hty2
        obtain ⟨tr, hta, htc⟩ := this
        subst hta htc
        cases st with
        | nil => exact hok.elim
        | cons x r =>
        have hst : stC (trS 9) v (iv M 477) (x :: r) = (if x = 0 then 1 else 0) :: r := by
          unfold stC; rw [if_neg (show ¬ trS 9 = 110 by decide), if_neg (show ¬ trS 9 = 108 by decide), if_pos (show trS 9 = 33 from rfl)]
        rw [hst] at hok2 hev
        have hx01 := hok.1.2.2 rfl
        simp only [List.length_cons] at hlen hty ⊢
        obtain ⟨p1, p3⟩ := hpl
        rw [show w32 (((r.length + 1 : Nat) : Int) - 1) = (r.length : Int) by rw [w32_i (by omega) (by omega)]; omega]
        refine ⟨⟨by omega, by omega⟩, fun N hN hSN => ?_⟩
        rw [Int.toNat_natCast, p1, w32_i (z := 1 - x) (by omega) (by omega), show (1 : Int) - x = if x = 0 then 1 else 0 by rcases hx01 with rfl | rfl <;> decide] at hN
        rw [w32_i (z := 520 * (h0 : Int) + i + 1) (by omega) (by omega), show ((r.length + 1 : Nat) : Int) = (((if x = 0 then (1 : Int) else 0) :: r).length : Int) by simp only [List.length_cons], show 520 * (h0 : Int) + i + 1 = 520 * (h0 : Int) + ((i + 1 : Nat) : Int) by omega]
        subst hN
        refine ih (i + 1) _ _ _ (by omega) (hf.ps rfl) hok2 (by simp only [List.length_cons]; omega) ⟨by rw [iv_si]; simp, plR_mono (fun k hk => ?_) p3⟩ hsc2 hev
        rw [iv_si]; exact if_neg (by omega)
      · -- letter
        rw [a1] at c0 c1
        have c1' : c = 1 := by simpa using c1
        subst c1'
        have : 0 ≤ v ∧ v < 6 ∧ ty.length < 60 ∧ t2 = false :: ty := by
          unfold tyC at hty2
          rw [if_neg (show ¬ trS 1 = 110 by decide), if_pos (show trS 1 = 108 from rfl)] at hty2
          split at hty2
          · rename_i q; cases hty2; exact ⟨q.1, q.2.1, q.2.2, rfl⟩
          · cases hty2
        obtain ⟨q1, q2, q3, htc⟩ := this
        subst htc
        have hst : stC (trS 1) v (iv M 477) st = iv M 477 v.toNat :: st := by
          unfold stC; rw [if_neg (show ¬ trS 1 = 110 by decide), if_pos (show trS 1 = 108 from rfl)]
        rw [hst] at hok2 hev
        rw [a2]
        refine ⟨⟨q1, q2⟩, ⟨by omega, by omega⟩, fun N hN hSN => ?_⟩
        rw [e3, Int.toNat_natCast] at hN
        rw [w32_i (z := (st.length : Int) + 1) (by omega) (by omega), w32_i (z := 520 * (h0 : Int) + i + 1) (by omega) (by omega), show (st.length : Int) + 1 = ((iv M 477 v.toNat :: st).length : Int) by simp only [List.length_cons]; omega, show 520 * (h0 : Int) + i + 1 = 520 * (h0 : Int) + ((i + 1 : Nat) : Int) by omega]
        subst hN
        refine ih (i + 1) _ _ _ (by omega) (hf.ps rfl) hok2 (by simp only [List.length_cons]; omega) ⟨by rw [iv_si]; simp, plR_mono (fun k hk => ?_) hpl⟩ hsc2 hev
        rw [iv_si]; exact if_neg (by omega)
  exact key n i0 M [] [] rfl Fr.refl trivial (by decide) trivial hsc rfl
end MLaw
