/-! THE CLASS's picture over the model's call, over an exception; what is known of the law's own cells -/
section CxFm
variable {M M' : jM} {W : kW}
theorem CX.cg (h : CX M W) (s' : Shp M') (e : ∀ r, 6 ≤ r → r < 468 → iv M' r = iv M r) (el : lg M' 401 = lg M 401) (er7 : rv M' 27 = rv M 27) (er9 : rv M' 29 = rv M 29) (eg : ∀ g, 500 ≤ g → LawAt M g → LawAt M' g ∧ lawF M' g = lawF M g ∧ (LawW M g → LawW M' g)) : CX M' W := by
  have sb : ∀ {b : Nat} {s : jS}, 8 ≤ b → b + 7 < 468 → SB M b s → SB M' b s := fun hb hb2 hs f i hi h5 => by
    rw [e _ (by unfold inS at hi; omega) (by unfold inS at hi; omega)]; exact hs f i hi h5
  have sl : ∀ {b : Nat} {s : jS}, 8 ≤ b → b + 7 < 468 → SL M b s → SL M' b s := fun hb hb2 hs i hi => by
    rw [e _ (by omega) (by omega)]; exact hs i hi
  obtain ⟨a0, ⟨i1, i2, i3, i4, i5, i6⟩, ⟨x1, x2, nx, c1, c2, c3, c4, c5⟩, a3, a4, ⟨b1, b2, b3⟩, ⟨t1, t2⟩, ⟨l1, l2, G, l3, l4, l5, l7⟩, a8, ⟨a9, a9'⟩, a10⟩ := h
  refine ⟨s', ?_, ?_, ?_, ?_, ?_, ?_, ?_, ?_, ⟨?_, ?_⟩, ?_⟩
  · refine ⟨by rw [e 29 (by decide) (by decide)]; exact i1, by rw [e 29 (by decide) (by decide)]; exact i2, by rw [e 29 (by decide) (by decide)]; exact i3, fun i hi => by rw [e 30 (by decide) (by decide)]; exact i4 i hi, fun i hi => by rw [e 31 (by decide) (by decide)]; exact i5 i hi, ?_⟩
    unfold LawI at i6 ⊢
    split
    · rename_i hl; rw [hl] at i6; rw [er9]; exact i6
    · rename_i F hl
      rw [hl] at i6
      obtain ⟨g, q1, q2, q3, q4, q5⟩ := i6
      obtain ⟨u1, u2, u3⟩ := eg g q2 q3
      exact ⟨g, by rw [er9]; exact q1, q2, u1, u3 q4, by rw [u2]; exact q5⟩
  · refine ⟨fun z => ⟨sb (by decide) (by decide) (x1 z).1, sl (by decide) (by decide) (x1 z).2⟩, by rw [e 33 (by decide) (by decide)]; exact x2, nx, c1, by rw [e 65 (by decide) (by decide)]; exact c2, by rw [e 65 (by decide) (by decide)]; exact c3, c4, fun k hk => ?_⟩
    obtain ⟨d1, d2⟩ := c5 k hk
    exact ⟨sb (by omega) (by omega) d1, sl (by omega) (by omega) d2⟩
  · refine ⟨by rw [e 6 (by decide) (by decide)]; exact a3.1, fun u hu => ?_⟩
    obtain ⟨d1, d2⟩ := a3.2 u hu
    exact ⟨sb (by decide) (by decide) d1, sl (by decide) (by decide) d2⟩
  · exact fun z => sb (by decide) (by decide) (a4 z)
  · refine ⟨by rw [e 387 (by decide) (by decide)]; exact b1, fun k hk => ?_, ?_⟩
    · rw [e 388 (by decide) (by decide), e 389 (by decide) (by decide), e 390 (by decide) (by decide), e 391 (by decide) (by decide)]; exact b2 k hk
    · rw [e 387 (by decide) (by decide)]
      refine b3.imp id (fun z => ⟨z.1, ?_⟩)
      have z2 := z.2
      unfold RZ at z2 ⊢
      rw [e 400 (by decide) (by decide), el, e 402 (by decide) (by decide), e 387 (by decide) (by decide), e 403 (by decide) (by decide)]
      exact z2
  · exact ⟨by rw [e 7 (by decide) (by decide)]; exact t1, fun i hi => by rw [e 8 (by decide) (by decide)]; exact t2 i hi⟩
  · refine ⟨by rw [e 6 (by decide) (by decide)]; exact l1, by rw [e 6 (by decide) (by decide)]; exact l2, G, fun k hk => ?_, l4, by rw [er9]; exact l5, by rw [er9]; exact l7⟩
    obtain ⟨z1, z2, z3, z4, z5⟩ := l3 k hk
    obtain ⟨u1, u2, u3⟩ := eg _ z2 z3
    exact ⟨by rw [er7]; exact z1, z2, u1, u3 z4, by rw [u2]; exact z5⟩
  · unfold RefX at a8 ⊢; rw [e 28 (by decide) (by decide)]; exact a8
  · exact a9.cg (e 12 (by decide) (by decide)) (e 13 (by decide) (by decide)) (e 14 (by decide) (by decide))
  · unfold LgtX at a9' ⊢; rw [e 43 (by decide) (by decide), e 44 (by decide) (by decide), e 45 (by decide) (by decide), e 48 (by decide) (by decide)]; exact a9'
  · rw [e 6 (by decide) (by decide)]; exact a10
theorem CX.f5 (h : CX M W) (hf : Fr (fun r => 468 ≤ r ∧ r < 500) M M') : CX M' W := by
  have np : ∀ r, (r < 468 ∨ 500 ≤ r) → ¬ (fun r => 468 ≤ r ∧ r < 500) r := fun r hr z => by have z2 : 468 ≤ r ∧ r < 500 := z; omega
  refine h.cg (hf.shp h.shp) (fun r _ hr => hf.eiv (np r (by omega))) (hf.elg (np 401 (by omega))) (by rw [hf.erv]) (by rw [hf.erv]) (fun g hg hL => ?_)
  have q := lawF_fr (g := g) hf (fun k hk => np _ (by omega))
  exact ⟨hf.law hL, q.1, q.2⟩
theorem CX.fm (h : CX M W) (hf : FM M M') : CX M' W := h.f5 (Fr.mono hf (fun r hr => by omega))
theorem CM.cg (h : CM M W) (f1 : Shp M') (e : ∀ r, 468 ≤ r → r < 499 → iv M' r = iv M r) : CM M' W := by
  obtain ⟨_, h1, h2, h3, h4, h5, h6, h7, h8, h9⟩ := h
  refine ⟨f1, ?_, ?_, ?_, ?_, ?_, ?_, ?_, ?_, ?_⟩
  · obtain ⟨a1, a2, a3, a4, a5⟩ := h1
    unfold IM
    rw [e 468 (by omega) (by omega), e 483 (by omega) (by omega), e 482 (by omega) (by omega)]
    refine ⟨a1, a2, a3, a4, ?_⟩
    unfold LawIM MLawW mlF mSg mVl mRow at a5 ⊢
    rw [e 468 (by omega) (by omega), e 470 (by omega) (by omega), e 471 (by omega) (by omega), e 473 (by omega) (by omega), e 474 (by omega) (by omega), e 475 (by omega) (by omega), e 476 (by omega) (by omega)]
    exact a5
  · unfold NowM PM at h2 ⊢
    rw [e 468 (by omega) (by omega), e 486 (by omega) (by omega), e 488 (by omega) (by omega)]
    exact h2
  · unfold PicM at h3 ⊢
    rw [e 468 (by omega) (by omega), e 498 (by omega) (by omega)]
    exact h3
  · unfold TolM TM at h4 ⊢
    rw [e 468 (by omega) (by omega), e 484 (by omega) (by omega), e 483 (by omega) (by omega), e 482 (by omega) (by omega)]
    exact h4
  · unfold RidM at h5 ⊢
    rw [e 468 (by omega) (by omega), e 492 (by omega) (by omega), e 493 (by omega) (by omega), e 494 (by omega) (by omega), e 495 (by omega) (by omega)]
    exact h5
  · unfold TapM at h6 ⊢
    rw [e 468 (by omega) (by omega), e 469 (by omega) (by omega)]
    exact h6
  · unfold LawM MLawW mlF mSg mVl mRow at h7 ⊢
    rw [e 468 (by omega) (by omega), e 470 (by omega) (by omega), e 471 (by omega) (by omega), e 473 (by omega) (by omega), e 474 (by omega) (by omega), e 475 (by omega) (by omega), e 476 (by omega) (by omega)]
    exact h7
  · unfold RefM at h8 ⊢
    rw [e 487 (by omega) (by omega)]
    exact h8
  · rw [e 468 (by omega) (by omega)]
    exact h9
/-- an exception made: one cell more -/
theorem exc_NX (hS : Shp M) : NX (mx M) M (jexc M) := nw_NX (Nat.le_refl _)
theorem CX.exc (h : CX M W) : CX (jexc M) W ∧ FX M (jexc M) := by
  have hS := h.shp
  have hn := exc_NX hS
  have h5 := hS.1
  have s' := hn.shp h5 hS
  obtain ⟨_, q⟩ := id hn
  refine ⟨h.cg s' (fun r _ hr => (q r (by omega)).2.1) (q 401 (by omega)).2.2.1 (q 27 (by omega)).2.2.2 (q 29 (by omega)).2.2.2 (fun g hg hL => ?_), s', fun r hr => ⟨(q r (by omega)).2.1, (q r (by omega)).2.2.1, (q r (by omega)).1⟩, Nat.le_succ _, ?_, Nat.le_add_right _ _, ?_⟩
  · have hm := hL.2.1
    refine ⟨hn.law hm hL, ?_, ?_⟩
    · unfold lawF
      rw [(q g (by omega)).2.1, (q (g + 1) (by omega)).2.1, (q (g + 2) (by omega)).2.1, (q (g + 3) (by omega)).2.1, (q (g + 4) (by omega)).2.1, (q (g + 5) (by omega)).2.1]
    · unfold LawW
      rw [(q g (by omega)).2.1, (q (g + 1) (by omega)).2.1, (q (g + 2) (by omega)).2.1, (q (g + 3) (by omega)).2.1, (q (g + 4) (by omega)).2.1, (q (g + 5) (by omega)).2.1]
      exact id
  · show mx M + 1 ≤ _; omega
  · show ms M + 6 ≤ _; omega
/-- the law's own cells, and the room so far: c calls of each -/
def LSc (L w c : Nat) (M : jM) : Prop := kd M 5 = (20, L) ∧ (∀ j, j < L → i32 (iv M 5 j)) ∧ kd M 499 = (21, 1) ∧ ST M ∧ mx M ≤ 500 + 8 * c ∧ ms M ≤ w + 2000 * c
def LWc (L w c : Nat) (W : kW) (M : jM) : Prop := OKW W ∧ CX M W ∧ CM M W ∧ LSc L w c M
theorem room8 {a b c : Nat} (h : b ≤ 500 + 8 * c) (f : a ≤ b + 8) : a ≤ 500 + 8 * (c + 1) := by omega
theorem room2 {a b w c : Nat} (h : b ≤ w + 2000 * c) (f : a ≤ b + 2000) : a ≤ w + 2000 * (c + 1) := Nat.le_trans f (by rw [Nat.mul_add, Nat.mul_one, ← Nat.add_assoc]; exact Nat.add_le_add_right h 2000)
theorem LSc.fx {L w c : Nat} (h : LSc L w c M) (f : FX M M') : LSc L w (c + 1) M' := by
  obtain ⟨h1, h2, h3, h4, h5, h6⟩ := h
  obtain ⟨f1, f2, f3, f4, f5, f6⟩ := f
  refine ⟨by rw [(f2 5 (by omega)).2.2]; exact h1, fun j hj => by rw [(f2 5 (by omega)).1]; exact h2 j hj, (f2 499 (Or.inr ⟨by decide, by decide⟩)).2.2.trans h3, fun i hi => ?_, room8 h5 f4, room2 h6 f6⟩
  rw [(f2 1 (by omega)).1, (f2 2 (by omega)).1, (f2 3 (by omega)).1, (f2 4 (by omega)).1]
  exact h4 i hi
theorem LSc.f5 {L w c : Nat} (h : LSc L w c M) (f : Fr (fun r => 468 ≤ r ∧ r < 500) M M') : LSc L w c M' := by
  have e : ∀ r, r < 468 → iv M' r = iv M r := fun r hr => f.eiv (fun z => by have z2 : 468 ≤ r ∧ r < 500 := z; omega)
  obtain ⟨h1, h2, h3, h4, h5, h6⟩ := h
  refine ⟨by rw [f.ekd]; exact h1, fun j hj => by rw [e 5 (by omega)]; exact h2 j hj, by rw [f.ekd]; exact h3, fun i hi => ?_, by rw [f.emx]; exact h5, by rw [f.ems]; exact h6⟩
  rw [e 1 (by omega), e 2 (by omega), e 3 (by omega), e 4 (by omega)]
  exact h4 i hi
theorem LSc.fm {L w c : Nat} (h : LSc L w c M) (f : FM M M') : LSc L w c M' := h.f5 (Fr.mono f (fun r hr => by omega))
theorem LSc.up {L w c : Nat} (h : LSc L w c M) : LSc L w (c + 1) M := by
  obtain ⟨h1, h2, h3, h4, h5, h6⟩ := h
  exact ⟨h1, h2, h3, h4, room8 h5 (Nat.le_add_right _ _), room2 h6 (Nat.le_add_right _ _)⟩
theorem LSc.row {L w c : Nat} (h : LSc L w c M) (hS : Shp M) : jro M 20 L 5 := ⟨by decide, by have := hS.1; omega, h.1⟩
theorem LSc.st {L w c : Nat} (h : LSc L w c M) : ST M := h.2.2.2.1
theorem LSc.x32 {L w c i : Nat} (h : LSc L w c M) (hi : i + 6 ≤ L) : ∀ k, i32 (argF (iv M 5 ((i : Int) + 1).toNat) (iv M 5 ((i : Int) + 2).toNat) (iv M 5 ((i : Int) + 3).toNat) (iv M 5 ((i : Int) + 4).toNat) (iv M 5 ((i : Int) + 5).toNat) k) := by
  have q : ∀ n : Nat, n < L → i32 (iv M 5 n) := h.2.1
  intro k
  unfold argF
  split
  · exact q _ (by omega)
  · split
    · exact q _ (by omega)
    · split
      · exact q _ (by omega)
      · split
        · exact q _ (by omega)
        · exact q _ (by omega)
theorem LWc.step {L w c : Nat} {W' : kW} {M1 M2 : jM} (h : LWc L w c W M) (hok : OKW W') (f1 : FX M M1) (x1 : CX M1 W') (f2 : FM M1 M2) (m2 : CM M2 W') : LWc L w (c + 1) W' M2 := ⟨hok, x1.fm f2, m2, (h.2.2.2.fx f1).fm f2⟩
theorem if01 (x : Int) : (if x = 0 then (0 : Int) else 1) = 0 ∨ (if x = 0 then (0 : Int) else 1) = 1 := by
  by_cases c : x = 0
  · rw [if_pos c]; exact Or.inl rfl
  · rw [if_neg c]; exact Or.inr rfl
end CxFm
