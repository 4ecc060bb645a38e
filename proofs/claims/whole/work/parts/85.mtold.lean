/-! THE RIDDLE: of the model -/
def codeOk (I : jI) (c : Nat) : Prop := cdP c < I.np ∧ cdO c < I.np ∧ cdP c ≠ cdO c ∧ cdK c < 3 ∧ 1 ≤ cdT c ∧ fG (I.mi (cdP c)) (cdK c : Nat) = 1
theorem fitOk_c {I : jI} {t : jS} {c : Nat} : fitOk I t c ↔ codeOk I c ∧ fE (t 1) (cdP c) ≠ -1 := by
  unfold fitOk codeOk
  constructor
  · rintro ⟨a1, a2, a3, a4, a5, a6, a7⟩; exact ⟨⟨a1, a2, a3, a4, a5, a6⟩, a7⟩
  · rintro ⟨⟨a1, a2, a3, a4, a5, a6⟩, a7⟩; exact ⟨a1, a2, a3, a4, a5, a6, a7⟩
/-- coins do not matter -/
theorem moS_8 {t t' : jS} {c : Nat} (h : ∀ f i, ¬ (f = 0 ∧ i = 8) → t' f i = t f i) : ∀ f i, ¬ (f = 0 ∧ i = 8) → moS t' c f i = moS t c f i := by
  intro f i hf
  have e : t' 1 = t 1 := funext (fun j => h 1 j (by omega))
  unfold moS pLay
  rw [e, h f i hf]
theorem tq_8 {I : jI} {t t' : jS} (h : ∀ f i, ¬ (f = 0 ∧ i = 8) → t' f i = t f i) (i : Nat) : ∀ u : Nat, (tqS I t' u 1 i = tqS I t u 1 i ∧ tqS I t' u 2 i = tqS I t u 2 i ∧ tqS I t' u 3 i = tqS I t u 3 i ∧ tqS I t' u 4 i = tqS I t u 4 i) ∧ massS I (tqS I t' u) i = massS I (tqS I t u) i := by
  have e7 : t' 0 7 = t 0 7 := h 0 7 (by omega)
  have e9 : t' 0 9 = t 0 9 := h 0 9 (by omega)
  have ms : ∀ u, (tqS I t' u 1 i = tqS I t u 1 i ∧ tqS I t' u 2 i = tqS I t u 2 i ∧ tqS I t' u 3 i = tqS I t u 3 i ∧ tqS I t' u 4 i = tqS I t u 4 i) → massS I (tqS I t' u) i = massS I (tqS I t u) i := fun u q => massS_at q.1 q.2.1 q.2.2.1 q.2.2.2 (by rw [(tqS_w u).1, (tqS_w u).1, e7]) (by rw [(tqS_w u).2.1, (tqS_w u).2.1, e9])
  intro u
  induction u with
  | zero =>
    have q : tqS I t' 0 1 i = tqS I t 0 1 i ∧ tqS I t' 0 2 i = tqS I t 0 2 i ∧ tqS I t' 0 3 i = tqS I t 0 3 i ∧ tqS I t' 0 4 i = tqS I t 0 4 i := ⟨h 1 i (by omega), h 2 i (by omega), h 3 i (by omega), h 4 i (by omega)⟩
    exact ⟨q, ms 0 q⟩
  | succ u ih =>
    obtain ⟨⟨a1, a2, a3, a4⟩, a5⟩ := ih
    have q : tqS I t' (u + 1) 1 i = tqS I t (u + 1) 1 i ∧ tqS I t' (u + 1) 2 i = tqS I t (u + 1) 2 i ∧ tqS I t' (u + 1) 3 i = tqS I t (u + 1) 3 i ∧ tqS I t' (u + 1) 4 i = tqS I t (u + 1) 4 i :=
      ⟨by rw [tqS_s, tqS_s, pL_1, pL_1, a5, a1], by rw [tqS_s, tqS_s, pL_2, pL_2, a2], by rw [tqS_s, tqS_s, pL_3, pL_3, a3], by rw [tqS_s, tqS_s, pL_4, pL_4, a5, a4]⟩
    exact ⟨q, ms _ q⟩
theorem trW_8 {I : jI} {t t' : jS} {c u p : Nat} (h : ∀ f i, ¬ (f = 0 ∧ i = 8) → t' f i = t f i) : trW I t' c u p = trW I t c u p := by
  have hm := moS_8 (c := c) h
  unfold trW
  rw [wtS_pW, wtS_pW, (tqS_w u).2.2, (tqS_w u).2.2, hm 6 p (by omega)]
  exact wtF_congr 32 (fun j _ => ⟨(tq_8 (I := I) hm j u).1.1, (tq_8 (I := I) hm j u).2⟩)
theorem tlF_o {th : Nat → Int} {s : jS} {f i : Nat} (hf : f = 0 ∨ 5 ≤ f) : ∀ k, tlF th k s f i = s f i
  | 0 => rfl
  | k + 1 => by
    simp only [tlF]
    rw [pLay_o (Or.inr hf), tlF_o hf k]
theorem tlF_cg {th : Nat → Int} {s s' : jS} (h : ∀ f i, 1 ≤ f → f ≤ 4 → s' f i = s f i) : ∀ k f i, 1 ≤ f → f ≤ 4 → tlF th k s' f i = tlF th k s f i
  | 0, f, i, h1, h2 => h f i h1 h2
  | k + 1, f, i, h1, h2 => by
    have e : tlF th k s' 1 = tlF th k s 1 := funext (fun j => tlF_cg h k 1 j (by omega) (by omega))
    simp only [tlF]
    rw [e]
    unfold pLay
    rw [tlF_cg h k f i h1 h2]
theorem tlF_4 {th : Nat → Int} {b : Nat → Int} {w : Int} {i : Nat} : ∀ k, tlF th k (tl0 b w) 4 i = 0
  | 0 => by simp [tlF, tl0]
  | k + 1 => by
    simp only [tlF]
    unfold pLay
    rw [tlF_4 k]
    simp
theorem tl0_14 {b b' : Nat → Int} {w w' : Int} : ∀ f i, 1 ≤ f → f ≤ 4 → tl0 b' w' f i = tl0 b w f i := by
  intro f i h1 h2
  unfold tl0
  by_cases c : f = 1
  · rw [if_pos c, if_pos c]
  · rw [if_neg c, if_neg c, if_neg (by omega), if_neg (by omega), if_neg (by omega), if_neg (by omega)]
/-- thoughts told that can be laid -/
def tlOk (th : Nat → Int) (b : Nat → Int) (w : Int) (n c : Nat) : Prop := c ≤ 12 ∧ ∀ k, k < c → 0 ≤ th (4 * k) ∧ th (4 * k) < n ∧ 0 ≤ th (4 * k + 1) ∧ th (4 * k + 1) < n ∧ 0 ≤ th (4 * k + 2) ∧ th (4 * k + 2) ≤ 2 ∧ 1 ≤ th (4 * k + 3) ∧ th (4 * k + 3) ≤ 9 ∧ fE ((tlF th k (tl0 b w)) 1) (th (4 * k)).toNat ≠ -1
def bdS (b : Nat → Int) (s : jS) (p : Nat) : jS := fun f i => if f = 6 ∧ i < p then b (3 * i) else s f i
theorem bdS_o {b : Nat → Int} {s : jS} {p f i : Nat} (h : f ≠ 6) : bdS b s p f i = s f i := if_neg (fun z => h z.1)
theorem bdS_y {b : Nat → Int} {s : jS} {p i : Nat} (h : i < p) : bdS b s p 6 i = b (3 * i) := if_pos ⟨rfl, h⟩
theorem bdS_n {b : Nat → Int} {s : jS} {p i : Nat} (h : p ≤ i) : bdS b s p 6 i = s 6 i := if_neg (fun z => by omega)
section RiddleM0
variable {d : Nat} {M : jM} {Q : Option jV → jM → Prop} {W : kW} {I : jI} {s t : jS}
theorem m_layTold {n c : Nat} (hd : 9 ≤ d) (hS : Shp M) (hn : n ≤ 8) (h25 : iv M 468 25 = (n : Int)) (h26 : iv M 468 26 = (c : Int)) (ht : tlOk (iv M 484) (iv M 483) (iv M 482 0) n c) (h : ∀ M', FP M M' → MR M' n (tlF (iv M 484) c (tl0 (iv M 483) (iv M 482 0))) → Q none M') : Call d mX11_layTold [vR 468] M Q := by
  obtain ⟨e, rfl⟩ := dd (d := d) (by omega)
  obtain ⟨hc, hk⟩ := ht
  have e1 : ∀ k, tlF (iv M 484) k (tl0 (fun _ => 0) 0) 1 = tlF (iv M 484) k (tl0 (iv M 483) (iv M 482 0)) 1 := fun k => funext (fun i => tlF_cg tl0_14 k 1 i (by omega) (by omega))
  refine vn_layTold (by omega) hS ?_
  refine up_to (R := fun i => ∀ M1, FP M M1 → (∀ x, x < i → iv M1 486 x = 0) → Run (e + 1) mX11_layTold 2 [some (vR 468), some (vI (i : Int))] [] M1 Q) 171 ?_ ?_ M FP.refl (fun x hx => absurd hx (Nat.not_lt_zero _))
  · intro M1 f1 z1
    have s1 := f1.shp hS
    refine vn_layTold_2 (by omega) s1 ⟨fun _ => ?_, fun z => absurd (by decide) z⟩
    have r1 : MR M1 n (tl0 (fun _ => 0) 0) := by
      refine ⟨fun j hj => ⟨fun _ => z1 _ (by omega), fun z => absurd rfl z⟩, fun p hp => z1 _ (by omega), z1 _ (by omega), z1 _ (by omega), z1 _ (by omega)⟩
    refine up_to (R := fun k => ∀ M2, FP M M2 → MR M2 n (tlF (iv M 484) k (tl0 (fun _ => 0) 0)) → Run (e + 1) mX11_layTold 24 [some (vR 468), some (vI (k : Int))] [] M2 Q) c ?_ ?_ M1 f1 r1
    · intro M2 f2 r2
      have s2 := f2.shp hS
      have e26 : iv M2 468 26 = (c : Int) := by rw [f2.1.eiv (by omega)]; exact h26
      refine vn_layTold_24 (by omega) s2 ⟨fun _ => ?_, fun z => absurd (by rw [e26]; omega) z⟩
      refine up_to (R := fun p => ∀ M3, FP M M3 → MR M3 n (bdS (iv M 483) (tlF (iv M 484) c (tl0 (fun _ => 0) 0)) p) → Run (e + 1) mX11_layTold 84 [some (vR 468), some (vI (p : Int))] [] M3 Q) n ?_ ?_ M2 f2 ?_
      · intro M3 f3 r3
        have s3 := f3.shp hS
        have e25 : iv M3 468 25 = (n : Int) := by rw [f3.1.eiv (by omega)]; exact h25
        refine vn_layTold_84 (by omega) s3 ⟨fun _ N hN sN => ?_, fun z => absurd (by rw [e25]; omega) z⟩
        rw [f3.1.eiv (by omega : ¬ (482 : Nat) = 486)] at hN
        refine h N (by rw [hN]; exact f3.si (by omega)) ?_
        obtain ⟨r1, r2, r3', r4, r5⟩ := r3
        have eN : ∀ x, x ≠ 168 → iv N 486 x = iv M3 486 x := fun x hx => by rw [hN, iv_si, if_neg (by omega)]
        refine ⟨fun j hj => ?_, fun p hp => ?_, ?_, ?_, ?_⟩
        · obtain ⟨q1, q2⟩ := r1 j hj
          rw [eN _ (by omega), eN _ (by omega), eN _ (by omega), eN _ (by omega), eN _ (by omega)]
          have w : ∀ f, 1 ≤ f → f ≤ 4 → bdS (iv M 483) (tlF (iv M 484) c (tl0 (fun _ => 0) 0)) n f j = tlF (iv M 484) c (tl0 (iv M 483) (iv M 482 0)) f j := fun f h1 h2 => by rw [bdS_o (by omega)]; exact tlF_cg tl0_14 c f j h1 h2
          have w1 := w 1 (by omega) (by omega)
          have w2 := w 2 (by omega) (by omega)
          have w3 := w 3 (by omega) (by omega)
          have w4 := w 4 (by omega) (by omega)
          rw [← w1, ← w2, ← w3, ← w4]
          exact ⟨q1, q2⟩
        · have := r2 p hp
          rw [bdS_y hp] at this
          rw [eN _ (by omega), this, tlF_o (Or.inr (by omega))]
          unfold tl0
          simp
        · rw [hN, iv_si, if_pos ⟨rfl, rfl⟩, tlF_o (Or.inl rfl)]
          unfold tl0
          simp
        · rw [eN _ (by omega), r4, bdS_o (by decide), tlF_o (Or.inl rfl), tlF_o (Or.inl rfl)]
          unfold tl0
          simp
        · rw [eN _ (by omega), r5, bdS_o (by decide), tlF_o (Or.inl rfl), tlF_o (Or.inl rfl)]
          unfold tl0
          simp
      · intro p hp ih M3 f3 r3
        have s3 := f3.shp hS
        have e25 : iv M3 468 25 = (n : Int) := by rw [f3.1.eiv (by omega)]; exact h25
        refine vn_layTold_84 (by omega) s3 ⟨fun z => absurd z (by rw [e25]; omega), fun _ => ?_⟩
        have x1 : w32 (w32 (3 * (p : Int)) + 0) = ((3 * p : Nat) : Int) := by rw [w32_i (z := 3 * (p : Int)) (by omega) (by omega), w32_i (by omega) (by omega)]; omega
        have x2 : w32 (160 + (p : Int)) = ((160 + p : Nat) : Int) := by rw [w32_i (by omega) (by omega)]; omega
        rw [x1, x2, Int.toNat_natCast, Int.toNat_natCast, w32s (by omega), f3.1.eiv (by omega : ¬ (483 : Nat) = 486)]
        refine ⟨⟨by omega, by omega⟩, ⟨by omega, by omega⟩, fun N hN sN => ih N (by rw [hN]; exact f3.si (by omega)) ?_⟩
        obtain ⟨r1, r2, r3', r4, r5⟩ := r3
        have eN : ∀ x, x ≠ 160 + p → iv N 486 x = iv M3 486 x := fun x hx => by rw [hN, iv_si, if_neg (by omega)]
        refine ⟨fun j hj => ?_, fun p' hp' => ?_, ?_, ?_, ?_⟩
        · have := r1 j hj
          rw [eN _ (by omega), eN _ (by omega), eN _ (by omega), eN _ (by omega), eN _ (by omega)]
          rw [bdS_o (by decide), bdS_o (by decide), bdS_o (by decide), bdS_o (by decide)] at this ⊢
          exact this
        · by_cases z : p' = p
          · rw [z, hN, iv_si, if_pos ⟨rfl, rfl⟩, bdS_y (by omega)]
          · have := r2 p' hp'
            rw [eN _ (by omega), this]
            by_cases y : p' < p
            · rw [bdS_y y, bdS_y (by omega)]
            · rw [bdS_n (by omega), bdS_n (by omega)]
        · rw [eN _ (by omega), r3', bdS_o (by decide), bdS_o (by decide)]
        · rw [eN _ (by omega), r4, bdS_o (by decide), bdS_o (by decide)]
        · rw [eN _ (by omega), r5, bdS_o (by decide), bdS_o (by decide)]
      · have : bdS (iv M 483) (tlF (iv M 484) c (tl0 (fun _ => 0) 0)) 0 = tlF (iv M 484) c (tl0 (fun _ => 0) 0) := by
          funext f i
          exact if_neg (fun z => Nat.not_lt_zero _ z.2)
        rw [this]
        exact r2
    · intro k hkc ih M2 f2 r2
      have s2 := f2.shp hS
      have e26 : iv M2 468 26 = (c : Int) := by rw [f2.1.eiv (by omega)]; exact h26
      obtain ⟨t1, t2, t3, t4, t5, t6, t7, t8, t9⟩ := hk k hkc
      refine vn_layTold_24 (by omega) s2 ⟨fun z => absurd z (by rw [e26]; omega), fun _ => ?_⟩
      have x : ∀ (j : Nat) (z : Int), z = (j : Int) → j < 4 → w32 (w32 (4 * (k : Int)) + z) = ((4 * k + j : Nat) : Int) := fun j z hz hj => by
        rw [w32_i (z := 4 * (k : Int)) (by omega) (by omega), w32_i (by omega) (by omega)]
        omega
      have x0 := x 0 0 rfl (by omega)
      have x1 := x 1 1 rfl (by omega)
      have x2 := x 2 2 rfl (by omega)
      have x3 := x 3 3 rfl (by omega)
      rw [x0, x1, x2, x3, Int.toNat_natCast, Int.toNat_natCast, Int.toNat_natCast, Int.toNat_natCast, f2.1.eiv (by omega : ¬ (484 : Nat) = 486)]
      refine ⟨⟨by omega, by omega⟩, ⟨by omega, by omega⟩, ⟨by omega, by omega⟩, ⟨by omega, by omega⟩, ?_⟩
      obtain ⟨q, hq⟩ : ∃ q : Nat, iv M 484 (4 * k) = (q : Int) := ⟨(iv M 484 (4 * k)).toNat, by omega⟩
      have eq0 : iv M 484 (4 * k + 0) = (q : Int) := hq
      rw [hq, Int.toNat_natCast] at t9
      rw [eq0]
      refine m_putThought (by omega) s2 r2 hn (by omega) (by rw [e1]; exact t9) (by omega) (fun M3 f3 r3 => ⟨rfl, f3.shp s2, ?_⟩)
      rw [w32s (by omega)]
      refine ih M3 (f2.trans f3) ?_
      simp only [tlF]
      rw [hq, Int.toNat_natCast]
      exact r3
  · intro i hi ih M1 f1 z1
    refine vn_layTold_2 (by omega) (f1.shp hS) ⟨fun z => absurd z (by omega), fun _ => ⟨⟨by omega, by omega⟩, fun N hN sN => ?_⟩⟩
    rw [Int.toNat_natCast] at hN
    rw [w32s (by omega)]
    refine ih N (by rw [hN]; exact f1.si hi) (fun x hx => ?_)
    rw [hN, iv_si]
    by_cases z : x = i
    · rw [if_pos ⟨rfl, z⟩]
    · rw [if_neg (by omega)]; exact z1 x (by omega)
end RiddleM0
