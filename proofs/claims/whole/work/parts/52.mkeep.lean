/-! THE MODEL: what is kept, put aside, refused; loads -/
/-- like Fr, but of the model itself only the fields of J may change -/
def F4 (P J : Nat → Prop) (M M' : jM) : Prop := Fr (fun r => P r ∨ r = 468) M M' ∧ ∀ j, ¬ J j → iv M' 468 j = iv M 468 j ∧ lg M' 468 j = lg M 468 j
section F4s
variable {P P' J J' : Nat → Prop} {M M1 M' : jM} {I : jI}
theorem F4.refl : F4 P J M M := ⟨Fr.refl, fun _ _ => ⟨rfl, rfl⟩⟩
theorem F4.trans (h : F4 P J M M1) (k : F4 P J M1 M') : F4 P J M M' := ⟨h.1.trans k.1, fun j hj => ⟨(k.2 j hj).1.trans (h.2 j hj).1, (k.2 j hj).2.trans (h.2 j hj).2⟩⟩
theorem F4.mono (h : F4 P J M M') (hp : ∀ r, P r → P' r) (hj : ∀ r, J r → J' r) : F4 P' J' M M' := ⟨h.1.mono (fun r hr => hr.imp (hp r) id), fun j q => h.2 j (fun z => q (hj j z))⟩
theorem F4.of (h : Fr P M M') (hn : ¬ P 468) : F4 P J M M' := ⟨h.mono (fun _ => Or.inl), fun j _ => by rw [h.eiv hn, h.elg hn]; exact ⟨rfl, rfl⟩⟩
theorem F4.shp (h : F4 P J M M') (hS : Shp M) : Shp M' := h.1.shp hS
theorem F4.eiv (h : F4 P J M M') {r : Nat} (hr : ¬ P r ∧ r ≠ 468) : iv M' r = iv M r := h.1.eiv (fun q => q.elim hr.1 hr.2)
theorem F4.elg (h : F4 P J M M') {r : Nat} (hr : ¬ P r ∧ r ≠ 468) : lg M' r = lg M r := h.1.elg (fun q => q.elim hr.1 hr.2)
theorem F4.ps {r i : Nat} {v : Int} (h : F4 P J M M1) (hr : P r) (hn : r ≠ 468) : F4 P J M (si M1 r i v) := ⟨h.1.ps (Or.inl hr), fun j hj => by
  rw [iv_si, if_neg (by omega)]; exact h.2 j hj⟩
theorem F4.pj {i : Nat} {v : Int} (h : F4 P J M M1) (hi : J i) : F4 P J M (si M1 468 i v) := ⟨h.1.ps (Or.inr rfl), fun j hj => by
  rw [iv_si, if_neg (fun q => hj (by rw [q.2]; exact hi))]; exact h.2 j hj⟩
theorem F4.pl {r i : Nat} {v : Int} (h : F4 P J M M1) (hr : P r) (hn : r ≠ 468) : F4 P J M (sl M1 r i v) := ⟨h.1.pl (Or.inl hr), fun j hj => by
  refine ⟨(h.2 j hj).1, ?_⟩
  have : lg (sl M1 r i v) 468 j = lg M1 468 j := by
    show (if 468 = r ∧ j = i then v else lg M1 468 j) = _
    rw [if_neg (by omega)]
  rw [this]; exact (h.2 j hj).2⟩
theorem F4.im (h : F4 P J M M') (hA : IM M I) (hp : ∀ r, (470 ≤ r ∧ r ≤ 476) ∨ r = 482 ∨ r = 483 → ¬ P r) (h25 : ¬ J 25) (h30 : ¬ J 30) : IM M' I := by
  obtain ⟨h1, h2, h3, h4, h5⟩ := hA
  have e1 := h.eiv ⟨hp 470 (by omega), by omega⟩
  have e2 := h.eiv ⟨hp 471 (by omega), by omega⟩
  have e3 := h.eiv ⟨hp 473 (by omega), by omega⟩
  have e4 := h.eiv ⟨hp 474 (by omega), by omega⟩
  have e5 := h.eiv ⟨hp 475 (by omega), by omega⟩
  have e6 := h.eiv ⟨hp 476 (by omega), by omega⟩
  unfold IM
  rw [(h.2 25 h25).1, h.eiv ⟨hp 483 (by omega), by omega⟩, h.eiv ⟨hp 482 (by omega), by omega⟩]
  refine ⟨h1, h2, h3, h4, ?_⟩
  unfold LawIM at h5 ⊢
  rw [(h.2 30 h30).1]
  have q1 : mSg M' = mSg M := by funext h i; unfold mSg; rw [e1]
  have q2 : mVl M' = mVl M := by funext h i; unfold mVl; rw [e2]
  have q4 : mRow M' 474 = mRow M 474 := by funext h i; unfold mRow; rw [e4]
  have q5 : mRow M' 475 = mRow M 475 := by funext h i; unfold mRow; rw [e5]
  have q6 : mRow M' 476 = mRow M 476 := by funext h i; unfold mRow; rw [e6]
  split
  · rename_i hl; rw [hl] at h5; exact h5
  · rename_i F hl
    rw [hl] at h5
    obtain ⟨h, r1, r2, r3, r4⟩ := h5
    refine ⟨h, r1, r2, ?_, ?_⟩
    · unfold MLawW at r3 ⊢
      rw [q1, q2, q4, q5, q6, e1, e3]
      exact r3
    · intro l hl2
      have := r4 l hl2
      unfold mlF at this ⊢
      rw [q1, q2, q4, q5, q6, e3]
      exact this
end F4s
/-- what is kept -/
def PM (M : jM) (n K : Nat) (P : Nat → jS) : Prop := iv M 468 33 = (K : Int) ∧ K ≤ 40 ∧ ∀ k, k < K → MRf (fun i => iv M 488 (352 * (K - 1 - k) + i)) n (P k) ∧ MLg (fun i => iv M 488 (352 * (K - 1 - k) + i)) (P k)
def shK (K : Nat) : Nat := if K = 40 then 40 else K + 1
def shP (s : jS) (P : Nat → jS) : Nat → jS := fun k => match k with
  | 0 => s
  | j + 1 => P j
theorem PM.cg {M M' : jM} {n K : Nat} {P : Nat → jS} (h : PM M n K P) (h33 : iv M' 468 33 = iv M 468 33) (h488 : iv M' 488 = iv M 488) : PM M' n K P := by
  unfold PM
  rw [h33, h488]
  exact h
section MKeep
variable {d : Nat} {M : jM} {Q : Option jV → jM → Prop} {I : jI} {s : jS} {n K : Nat} {P : Nat → jS}
theorem m_keep (hd : 8 ≤ d) (hS : Shp M) (hs : MRf (iv M 486) n s) (hl : MLg (iv M 486) s) (hn : n ≤ 8) (h0 : 0 ≤ s 0 9) (hP : PM M n K P) (hP0 : ∀ k, k < K → 0 ≤ P k 0 9)
    (h : ∀ M', F4 (fun r => r = 488) (fun j => j = 33) M M' → PM M' n (shK K) (shP s P) → Q none M') : Call d mX11_keep [vR 468] M Q := by
  obtain ⟨e, rfl⟩ := dd (d := d) (by omega)
  obtain ⟨p1, p2, p3⟩ := hP
  have tail : ∀ (M1 : jM) (K1 : Nat), K1 < 40 → F4 (fun r => r = 488) (fun j => j = 33) M M1 → iv M1 468 33 = K1 → shK K = K1 + 1 → (∀ k, k < K1 → MRf (fun i => iv M1 488 (352 * (K1 - 1 - k) + i)) n (P k) ∧ MLg (fun i => iv M1 488 (352 * (K1 - 1 - k) + i)) (P k)) → Run (e + 1) mX11_keep 54 [some (vR 468), some (vI (0 : Int))] [] M1 Q := by
    intro M1 K1 hK hf h33 hsh hp
    have e6 : iv M1 486 = iv M 486 := hf.eiv (by omega)
    refine up_to (R := fun k => ∀ M2, F4 (fun r => r = 488) (fun j => j = 33) M M2 → iv M2 468 33 = K1 → iv M2 486 = iv M 486 → (∀ x, iv M2 488 x = if 352 * K1 ≤ x ∧ x < 352 * K1 + k then iv M 486 (x - 352 * K1) else iv M1 488 x) → Run (e + 1) mX11_keep 54 [some (vR 468), some (vI (k : Int))] [] M2 Q) 352 ?_ ?_ M1 hf h33 e6 (fun x => by rw [if_neg (by omega)])
    · intro M2 hf2 h2 e2 hx
      refine vn_keep_54 (by omega) (hf2.shp hS) ⟨fun _ N hN sN => ?_, fun c => absurd c (by decide)⟩
      rw [h2, w32_i (by omega) (by omega)] at hN
      refine h N (by rw [hN]; exact hf2.pj rfl) ?_
      have e8 : iv N 488 = iv M2 488 := by funext x; rw [hN, iv_si, if_neg (by omega)]
      refine ⟨by rw [hN, iv_si, if_pos ⟨rfl, rfl⟩, hsh]; rfl, by rw [hsh]; omega, fun k hk => ?_⟩
      rw [hsh] at hk ⊢
      rw [e8]
      cases k with
      | zero =>
        refine ⟨hs.cg hn (fun i hi => ?_), hl.cg (fun i hi hi2 => ?_) h0 rfl (fun i _ => rfl)⟩
        · show iv M2 488 (352 * (K1 + 1 - 1 - 0) + i) = _
          rw [hx, if_pos (by omega)]
          congr 1
          omega
        · show iv M2 488 (352 * (K1 + 1 - 1 - 0) + i) = _
          rw [hx, if_pos (by omega)]
          congr 1
          omega
      | succ k =>
        obtain ⟨q1, q2⟩ := hp k (by omega)
        refine ⟨q1.cg hn (fun i hi => ?_), q2.cg (fun i hi hi2 => ?_) ?_ rfl (fun i _ => rfl)⟩
        · show iv M2 488 (352 * (K1 + 1 - 1 - (k + 1)) + i) = iv M1 488 (352 * (K1 - 1 - k) + i)
          rw [hx, if_neg (by omega)]
          congr 1
          omega
        · show iv M2 488 (352 * (K1 + 1 - 1 - (k + 1)) + i) = iv M1 488 (352 * (K1 - 1 - k) + i)
          rw [hx, if_neg (by omega)]
          congr 1
          omega
        · refine hP0 k ?_
          unfold shK at hsh
          split at hsh <;> omega
    · intro k hk ih M2 hf2 h2 e2 hx
      refine vn_keep_54 (by omega) (hf2.shp hS) ⟨fun c => absurd c (by omega), fun _ => ⟨by omega, ?_⟩⟩
      rw [h2, w32_i (z := 352 * (K1 : Int)) (by omega) (by omega), w32_i (z := 352 * (K1 : Int) + (k : Int)) (by omega) (by omega), w32s (by omega), show (352 * (K1 : Int) + (k : Int)).toNat = 352 * K1 + k by omega, Int.toNat_natCast]
      refine ⟨by omega, fun N hN sN => ih N (by rw [hN]; exact hf2.ps rfl (by omega)) (by rw [hN, iv_si, if_neg (by omega), h2]) (by funext x; rw [hN, iv_si, if_neg (by omega), e2]) (fun x => ?_)⟩
      rw [hN]
      simp only [iv_si, true_and]
      rw [e2]
      by_cases c : x = 352 * K1 + k
      · rw [if_pos c, if_pos (by omega), c]
        congr 1
        omega
      · rw [if_neg c, hx]
        by_cases c2 : 352 * K1 ≤ x ∧ x < 352 * K1 + k
        · rw [if_pos c2, if_pos (by omega)]
        · rw [if_neg c2, if_neg (by omega)]
  refine vn_keep (by omega) hS ⟨fun c => ?_, fun c => ?_⟩
  · rw [p1] at c
    exact tail M K (by omega) F4.refl p1 (by unfold shK; rw [if_neg (by omega)]) p3
  · have hK : K = 40 := by omega
    subst hK
    have lp : ∀ (j k : Nat) (M2 : jM), 352 ≤ k → k ≤ 14080 → 14080 - k = j → F4 (fun r => r = 488) (fun j => j = 33) M M2 → iv M2 468 33 = 40 → (∀ x, iv M2 488 x = if x + 352 < k then iv M 488 (x + 352) else iv M 488 x) → Run (e + 1) mX11_keep 13 [some (vR 468), some (vI (k : Int))] [] M2 Q := by
      intro j
      induction j with
      | zero =>
        intro k M2 h3 h4 hj hf2 h33 hx
        obtain rfl : k = 14080 := by omega
        refine vn_keep_13 (by omega) (hf2.shp hS) ⟨fun _ N hN sN => ?_, fun c => absurd c (by decide)⟩
        rw [h33] at hN
        have e8 : iv N 488 = iv M2 488 := by funext x; rw [hN, iv_si, if_neg (by omega)]
        refine tail N 39 (by omega) (by rw [hN]; exact hf2.pj rfl) (by rw [hN, iv_si, if_pos ⟨rfl, rfl⟩]; rfl) rfl (fun k hk => ?_)
        rw [e8]
        obtain ⟨q1, q2⟩ := p3 k (by omega)
        refine ⟨q1.cg hn (fun i hi => ?_), q2.cg (fun i hi hi2 => ?_) (hP0 k (by omega)) rfl (fun i _ => rfl)⟩
        · show iv M2 488 (352 * (39 - 1 - k) + i) = iv M 488 (352 * (40 - 1 - k) + i)
          rw [hx, if_pos (by omega)]
          congr 1
          omega
        · show iv M2 488 (352 * (39 - 1 - k) + i) = iv M 488 (352 * (40 - 1 - k) + i)
          rw [hx, if_pos (by omega)]
          congr 1
          omega
      | succ j ih =>
        intro k M2 h3 h4 hj hf2 h33 hx
        refine vn_keep_13 (by omega) (hf2.shp hS) ⟨fun c => absurd c (by omega), fun _ => ⟨by omega, ?_⟩⟩
        rw [w32_i (z := (k : Int) - 352) (by omega) (by omega), w32s (by omega), show ((k : Int) - 352).toNat = k - 352 by omega, Int.toNat_natCast]
        refine ⟨by omega, fun N hN sN => ih (k + 1) N (by omega) (by omega) (by omega) (by rw [hN]; exact hf2.ps rfl (by omega)) (by rw [hN, iv_si, if_neg (by omega), h33]) (fun x => ?_)⟩
        rw [hN]
        simp only [iv_si, true_and]
        have ek : iv M2 488 k = iv M 488 k := by rw [hx, if_neg (by omega)]
        rw [ek]
        by_cases c : x = k - 352
        · rw [if_pos c, if_pos (by omega)]
          congr 1
          omega
        · rw [if_neg c, hx]
          by_cases c2 : x + 352 < k
          · rw [if_pos c2, if_pos (by omega)]
          · rw [if_neg c2, if_neg (by omega)]
    exact lp _ 352 M (by omega) (by omega) rfl F4.refl p1 (fun x => by
      by_cases c2 : x + 352 < 352
      · omega
      · rw [if_neg c2])
theorem m_putAside {k : Nat} (hd : 8 ≤ d) (hS : Shp M) (hk : k < 9) (h : ∀ M', Fr (fun r => r = 489) M M' → (∀ x, iv M' 489 x = if 171 * k ≤ x ∧ x < 171 * k + 171 then iv M 486 (x - 171 * k) else iv M 489 x) → Q none M') : Call d mX11_putAside [vR 468, vI (k : Int)] M Q := by
  obtain ⟨e, rfl⟩ := dd (d := d) (by omega)
  refine vn_putAside (by omega) hS ?_
  refine up_to (R := fun i => ∀ M1, Fr (fun r => r = 489) M M1 → (∀ x, iv M1 489 x = if 171 * k ≤ x ∧ x < 171 * k + i then iv M 486 (x - 171 * k) else iv M 489 x) → Run (e + 1) mX11_putAside 2 [some (vR 468), some (vI (k : Int)), some (vI (i : Int))] [] M1 Q) 171 ?_ ?_ M Fr.refl (fun x => by rw [if_neg (by omega)])
  · intro M1 hf hx
    exact vn_putAside_2 (by omega) (hf.shp hS) ⟨fun _ => h M1 hf hx, fun c => absurd c (by decide)⟩
  · intro i hi ih M1 hf hx
    refine vn_putAside_2 (by omega) (hf.shp hS) ⟨fun c => absurd c (by omega), fun _ => ⟨by omega, ?_⟩⟩
    rw [w32_i (z := 171 * (k : Int)) (by omega) (by omega), w32_i (z := 171 * (k : Int) + (i : Int)) (by omega) (by omega), w32s (by omega), show (171 * (k : Int) + (i : Int)).toNat = 171 * k + i by omega, Int.toNat_natCast]
    refine ⟨by omega, fun N hN sN => ih N (by rw [hN]; exact hf.ps rfl) (fun x => ?_)⟩
    rw [hN]
    simp only [iv_si, true_and]
    rw [hf.eiv (r := 486) (by omega)]
    by_cases c : x = 171 * k + i
    · rw [if_pos c, if_pos (by omega), c]
      congr 1
      omega
    · rw [if_neg c, hx]
      by_cases c2 : 171 * k ≤ x ∧ x < 171 * k + i
      · rw [if_pos c2, if_pos (by omega)]
      · rw [if_neg c2, if_neg (by omega)]
theorem m_takeBack {k : Nat} (hd : 8 ≤ d) (hS : Shp M) (hk : k < 9) (h : ∀ M', Fr (fun r => r = 486) M M' → (∀ x, iv M' 486 x = if x < 171 then iv M 489 (171 * k + x) else iv M 486 x) → Q none M') : Call d mX11_takeBack [vR 468, vI (k : Int)] M Q := by
  obtain ⟨e, rfl⟩ := dd (d := d) (by omega)
  refine vn_takeBack (by omega) hS ?_
  refine up_to (R := fun i => ∀ M1, Fr (fun r => r = 486) M M1 → (∀ x, iv M1 486 x = if x < i then iv M 489 (171 * k + x) else iv M 486 x) → Run (e + 1) mX11_takeBack 2 [some (vR 468), some (vI (k : Int)), some (vI (i : Int))] [] M1 Q) 171 ?_ ?_ M Fr.refl (fun x => by rw [if_neg (by omega)])
  · intro M1 hf hx
    exact vn_takeBack_2 (by omega) (hf.shp hS) ⟨fun _ => h M1 hf hx, fun c => absurd c (by decide)⟩
  · intro i hi ih M1 hf hx
    refine vn_takeBack_2 (by omega) (hf.shp hS) ⟨fun c => absurd c (by omega), fun _ => ?_⟩
    rw [w32_i (z := 171 * (k : Int)) (by omega) (by omega), w32_i (z := 171 * (k : Int) + (i : Int)) (by omega) (by omega), w32s (by omega), show (171 * (k : Int) + (i : Int)).toNat = 171 * k + i by omega, Int.toNat_natCast]
    refine ⟨by omega, by omega, fun N hN sN => ih N (by rw [hN]; exact hf.ps rfl) (fun x => ?_)⟩
    rw [hN]
    simp only [iv_si, true_and]
    rw [hf.eiv (r := 489) (by omega)]
    by_cases c : x = i
    · rw [if_pos c, if_pos (by omega), c]
    · rw [if_neg c, hx]
      by_cases c2 : x < i
      · rw [if_pos c2, if_pos (by omega)]
      · rw [if_neg c2, if_neg (by omega)]
theorem m_isRefused {w : Nat} (hd : 8 ≤ d) (hS : Shp M) (hw : w < 5) (h : Q (some (vI 1)) (si M 487 w (w32 (iv M 487 w + 1)))) : Call d mX11_isRefused [vR 468, vI (w : Int)] M Q := by
  obtain ⟨e, rfl⟩ := dd (d := d) (by omega)
  refine vn_isRefused (by omega) hS ⟨fun c => absurd c (by omega), fun _ => ⟨by omega, fun N hN sN => ?_⟩⟩
  rw [if_neg (by omega), hN, Int.toNat_natCast]
  exact h
theorem m_isRefused_no (hd : 8 ≤ d) (hS : Shp M) (h : Q (some (vI 0)) M) : Call d mX11_isRefused [vR 468, vI (-1)] M Q := by
  obtain ⟨e, rfl⟩ := dd (d := d) (by omega)
  refine vn_isRefused (by omega) hS ⟨fun _ => ?_, fun c => absurd rfl c⟩
  rw [if_pos rfl]
  exact h
/-- loads -/
def tbI (s : Int) (k : Nat) : Bool := decide (jand (jshr s (k : Int)) 1 = 1)
def loF (c : Nat → Bool) (w : Nat → Int) : Nat → Int
  | 0 => 0
  | n + 1 => if c n then rnd (loF c w n + w n) else loF c w n
theorem loF_in {c : Nat → Bool} {w : Nat → Int} : ∀ n, n ≤ 8 → (∀ j, j < n → 0 ≤ w j ∧ w j ≤ 17179869184) → 0 ≤ loF c w n ∧ loF c w n ≤ 34359738368 * (n : Int)
  | 0, _, _ => by simp [loF]
  | n + 1, hn, hw => by
    have ih := loF_in (c := c) (w := w) n (by omega) (fun j hj => hw j (by omega))
    have h1 := hw n (by omega)
    simp only [loF]
    split
    · have h2 := rnd_nonneg (x := loF c w n + w n) (by omega)
      have h3 := rnd_le (x := loF c w n + w n) (by omega)
      omega
    · omega
theorem loF_cg {c c' : Nat → Bool} {w w' : Nat → Int} : ∀ n, (∀ j, j < n → c j = c' j ∧ w j = w' j) → loF c w n = loF c' w' n
  | 0, _ => rfl
  | n + 1, h => by
    simp only [loF]
    rw [loF_cg n (fun j hj => h j (by omega)), (h n (by omega)).1, (h n (by omega)).2]
theorem wtS_17 {p : Nat} (hw : WS n s) (hI : WI I) (hp : p < 8) : 0 ≤ wtS (pW I s) p ∧ wtS (pW I s) p ≤ 17179869184 := by
  have := wtS_in (WS_pW (I := I) hw) (WM_pW hI) hp
  omega
theorem m_layWeights (hd : 17 ≤ d) (hS : Shp M) (hA : IM M I) (hI : WI I) (hs : MR M I.np s) (hw : WS I.np s) (h : ∀ M', Fr (fun r => r = 477 ∨ r = 478 ∨ r = 490) M M' → (∀ p, p < I.np → lg M' 490 p = wtS (pW I s) p) → Q none M') : Call d mX11_layWeights [vR 468] M Q := by
  obtain ⟨e, rfl⟩ := dd (d := d) (by omega)
  have hnp := hI.1
  refine vn_layWeights (by omega) hS ?_
  refine up_to (R := fun i => ∀ M1, Fr (fun r => r = 477 ∨ r = 478 ∨ r = 490) M M1 → (∀ p, p < i → lg M1 490 p = wtS (pW I s) p) → Run (e + 1) mX11_layWeights 2 [some (vR 468), some (vI (i : Int))] [] M1 Q) I.np ?_ ?_ M Fr.refl (fun p hp => by omega)
  · intro M1 hf hx
    exact vn_layWeights_2 (by omega) (hf.shp hS) ⟨fun _ => h M1 hf hx, fun c => absurd c (by rw [hf.eiv (r := 468) (by omega), hA.1]; omega)⟩
  · intro i hi ih M1 hf hx
    have sM1 := hf.shp hS
    refine vn_layWeights_2 (by omega) sM1 ⟨fun c => absurd c (by rw [hf.eiv (r := 468) (by omega), hA.1]; omega), fun _ => m_weightOf (by omega) sM1 (hA.fr hf (by intro r hr; omega)) hI (hs.fr hf (by omega)) hw hi (fun M2 hf2 => ⟨_, rfl, hf2.shp sM1, by omega, fun N hN sN => ?_⟩)⟩
    rw [w32s (by omega)]
    have f2 : Fr (fun r => r = 477 ∨ r = 478 ∨ r = 490) M M2 := hf.trans (hf2.mono (by intro r hr; unfold Mp at hr; omega))
    refine ih N (by rw [hN]; exact f2.pl (by omega)) (fun p hp => ?_)
    rw [hN]
    show (if 490 = 490 ∧ p = (i : Int).toNat then _ else lg M2 490 p) = _
    by_cases c : p = i
    · rw [if_pos ⟨rfl, by omega⟩, c]
    · rw [if_neg (by omega), hf2.elg (by unfold Mp; omega)]
      exact hx p (by omega)
theorem m_loadOf {sm : Int} {w : Nat → Int} (hd : 8 ≤ d) (hS : Shp M) (h25 : iv M 468 25 = (n : Int)) (hn : n ≤ 8) (hw : ∀ p, p < n → lg M 490 p = w p ∧ 0 ≤ w p ∧ w p ≤ 17179869184) (h : Q (some (vL (loF (tbI sm) w n))) M) : Call d mX11_loadOf [vR 468, vI sm] M Q := by
  obtain ⟨e, rfl⟩ := dd (d := d) (by omega)
  refine vn_loadOf (by omega) hS ?_
  refine up_to (R := fun i => Run (e + 1) mX11_loadOf 5 [some (vR 468), some (vI sm), some (vL (loF (tbI sm) w i)), none, some (vI (i : Int))] [] M Q) n ?_ ?_
  · exact vn_loadOf_5 (by omega) hS ⟨fun _ => h, fun c => absurd c (by omega)⟩
  · intro i hi ih
    have hb := loF_in (c := tbI sm) (w := w) i (by omega) (fun j hj => (hw j (by omega)).2)
    obtain ⟨w1, w2, w3⟩ := hw i hi
    simp only [loF] at ih
    refine vn_loadOf_5 (by omega) hS ⟨fun c => absurd c (by omega), fun _ => ⟨fun c => ?_, fun c => ?_⟩⟩
    · have ht : ¬ tbI sm i = true := by
        unfold tbI
        unfold fHas at c
        split at c
        · omega
        · rename_i z; simpa using z
      rw [if_neg ht] at ih
      rw [w32s (by omega)]
      exact ih
    · have ht : tbI sm i = true := by
        unfold tbI
        unfold fHas at c
        split at c
        · rename_i z; simpa using z
        · exact absurd rfl c
      rw [if_pos ht] at ih
      rw [Int.toNat_natCast, w1, w64_i (by omega) (by omega), w32s (by omega)]
      exact ⟨by omega, ⟨by omega, by omega⟩, ih⟩
theorem m_doesBear {sm : Int} {w : Nat → Int} (hd : 9 ≤ d) (hS : Shp M) (h25 : iv M 468 25 = (n : Int)) (hn : n ≤ 8) (hw : ∀ p, p < n → lg M 490 p = w p ∧ 0 ≤ w p ∧ w p ≤ 17179869184) (hbr : 0 ≤ iv M 482 2 ∧ iv M 482 2 ≤ 99) (h : Q (some (vI (if loF (tbI sm) w n ≤ 1000000 * iv M 482 2 then 1 else 0))) M) : Call d mX11_doesBear [vR 468, vI sm] M Q := by
  obtain ⟨e, rfl⟩ := dd (d := d) (by omega)
  refine vn_doesBear (by omega) hS (m_loadOf (by omega) hS h25 hn hw ⟨_, rfl, hS, ?_⟩)
  rw [w64_i (by omega) (by omega)]
  refine (congrArg (fun z => Q (some (vI z)) M) ?_).mp h
  simp only [jcmp_pos]
  split <;> split <;> first | rfl | omega
end MKeep
